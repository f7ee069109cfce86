/-! what the Statement gives at the law's entry -/
theorem st_eqR {args : Array Value} {s : State} {a b : Term} {y : Nat} (h : (Cond.eq a b).before args s = true) (ha : a.eval args s none [] s = some (.ref y)) : b.eval args s none [] s = some (.ref y) := by
  cases hv : b.eval args s none [] s with
  | none => simp [Cond.before, Cond.holds, Cond.value, hv, ha] at h
  | some w =>
    simp only [Cond.before, Cond.holds, Cond.value, hv, ha] at h
    cases w <;> simp_all
def stL : List Cond := flatC (Jvm.Cond.and given_1 narrow_1)
theorem st_n : ∀ i : Nat, i < 6 → sLen.getD i 0 < 2 ^ 31 := by decide
theorem st_1 : ∀ i : Nat, i < 6 → Cond.exactly (.string RX6 (sIy i)) "java/lang/String" ∈ stL := by decide +kernel
theorem st_2 : ∀ i : Nat, i < 6 → Cond.eq (.field (.string RX6 (sIy i)) "java/lang/String" "coder" "B") (.int 0) ∈ stL := by decide +kernel
theorem st_3 : ∀ i : Nat, i < 6 → Cond.arrayOf (.field (.string RX6 (sIy i)) "java/lang/String" "value" "[B") .byte ∈ stL := by decide +kernel
theorem st_4 : ∀ i : Nat, i < 6 → Cond.eq (.length (.field (.string RX6 (sIy i)) "java/lang/String" "value" "[B")) (.int (Int32.ofNat (sLen.getD i 0))) ∈ stL := by decide +kernel
theorem st_5 : ∀ i : Nat, i < 6 → ∀ j : Nat, j < sLen.getD i 0 → Cond.eq (.elem (.field (.string RX6 (sIy i)) "java/lang/String" "value" "[B") (.int (Int32.ofNat j))) (.int ((sByt.getD i []).getD j 0)) ∈ stL := by decide +kernel
theorem st_6 : ∀ i : Nat, i < 6 → ∀ j : Nat, j < 6 → i ≠ j → Cond.not (Cond.eq (.string RX6 (sIy i)) (.string RX6 (sIy j))) ∈ stL ∨ Cond.not (Cond.eq (.string RX6 (sIy j)) (.string RX6 (sIy i))) ∈ stL := by decide +kernel
theorem st_7 : ∀ i : Nat, i < 6 → Cond.eq (.string RX6 (sIy i)) (.string RX11 (sIx i)) ∈ stL := by decide +kernel
theorem st_8 : Cond.exactly (.string RX10 161) "java/lang/String" ∈ stL ∧ Cond.exactly (.string RX10 185) "java/lang/String" ∈ stL ∧ Cond.exactly (.string RX10 218) "java/lang/String" ∈ stL := by decide +kernel
theorem st_9 : Cond.eq (.static "java/lang/String" "COMPACT_STRINGS" "Z") (.int 1) ∈ stL ∧ Cond.isRef (.static "jdk/internal/util/Preconditions" "SIOOBE_FORMATTER" "Ljava/util/function/BiFunction;") ∈ stL ∧ Cond.isRef (.static Bundle.tN "UNASSIGNED_STACK" Bundle.steD) ∈ stL ∧ Cond.isRef (.static Bundle.tN "SUPPRESSED_SENTINEL" Bundle.listD) ∈ stL := by decide +kernel
theorem st_rM : ∀ i : Nat, i < 6 → Cond.stringRef RX11 (sIx i) (sTx i) ∈ lw_tbl := fun i hi => match i, hi with
  | 0, _ => (tb_5 _ (List.mem_of_getElem? (i := 236) rfl))
  | 1, _ => (tb_6 _ (List.mem_of_getElem? (i := 22) rfl))
  | 2, _ => (tb_6 _ (List.mem_of_getElem? (i := 23) rfl))
  | 3, _ => (tb_6 _ (List.mem_of_getElem? (i := 24) rfl))
  | 4, _ => (tb_6 _ (List.mem_of_getElem? (i := 25) rfl))
  | 5, _ => (tb_6 _ (List.mem_of_getElem? (i := 26) rfl))
  | _ + 6, hi => absurd hi (by omega)
theorem st_rR : ∀ i : Nat, i < 6 → Cond.stringRef RX6 (sIy i) (sTx i) ∈ lw_tbl := fun i hi => match i, hi with
  | 0, _ => (tb_1 _ (List.mem_of_getElem? (i := 229) rfl))
  | 1, _ => (tb_2 _ (List.mem_of_getElem? (i := 41) rfl))
  | 2, _ => (tb_2 _ (List.mem_of_getElem? (i := 42) rfl))
  | 3, _ => (tb_2 _ (List.mem_of_getElem? (i := 43) rfl))
  | 4, _ => (tb_2 _ (List.mem_of_getElem? (i := 44) rfl))
  | 5, _ => (tb_2 _ (List.mem_of_getElem? (i := 45) rfl))
  | _ + 6, hi => absurd hi (by omega)
section ST
variable {args : Array Value} {s : State}
theorem st_SW (hts : ∀ w ∈ lw_tbl, w.before args s = true) (hg : ∀ w ∈ stL, w.before args s = true) : SWa (Aw s) s := by
  have hA : ∀ a : Nat, a < s.heap.size → ¬ Aw s a := fun a h => Nat.not_le.mpr h
  obtain ⟨adK, adV, h1, h2⟩ := vk_Sof (N := 6) (tm := fun i => .string RX6 (sIy i)) (len := sLen) (byt := sByt) (A := Aw s) st_n (fun i hi => hg _ (st_1 i hi)) (fun i hi => hg _ (st_2 i hi)) (fun i hi => hg _ (st_3 i hi)) (fun i hi => hg _ (st_4 i hi)) (fun i hi j hj => hg _ (st_5 i hi j hj)) (fun i j hi hj hij => (st_6 i hi j hj hij).elim (fun h => Or.inl (hg _ h)) (fun h => Or.inr (hg _ h))) hA
  obtain ⟨a1, c1, d1, k1, q1, -⟩ := Cond.exactly_spec (args := args) (first := s) (o := none) (s := s) (idx := []) (hg _ st_8.1)
  obtain ⟨a2, c2, d2, k2, q2, -⟩ := Cond.exactly_spec (args := args) (first := s) (o := none) (s := s) (idx := []) (hg _ st_8.2.1)
  obtain ⟨a3, c3, d3, k3, q3, -⟩ := Cond.exactly_spec (args := args) (first := s) (o := none) (s := s) (idx := []) (hg _ st_8.2.2)
  refine ⟨adK, adV, h1, fun i hi => ⟨vk_R.of (A := args) (hts _ (st_rM i hi)) (st_eqR (hg _ (st_7 i hi)) (h2 i hi)), vk_R.of (A := args) (hts _ (st_rR i hi)) (h2 i hi)⟩, ⟨a1, vk_R.of (A := args) (hts _ (tb_5 _ (List.mem_of_getElem? (i := 28) rfl))) q1⟩, ⟨a2, vk_R.of (A := args) (hts _ (tb_5 _ (List.mem_of_getElem? (i := 55) rfl))) q2⟩, ⟨a3, vk_R.of (A := args) (hts _ (tb_5 _ (List.mem_of_getElem? (i := 63) rfl))) q3⟩, ?_, ?_⟩
  · exact va_Zof (hts _ (tb_2 _ (List.mem_of_getElem? (i := 2) rfl))) (hts _ (tb_1 _ (List.mem_of_getElem? (i := 9) rfl))) (va_eqi (hg _ st_9.1)) hA
  · exact va_Zqof (hts _ (tb_2 _ (List.mem_of_getElem? (i := 18) rfl))) (hts _ (tb_1 _ (List.mem_of_getElem? (i := 11) rfl))) (hg _ st_9.2.1) hA
theorem st_NW (hts : ∀ w ∈ lw_tbl, w.before args s = true) : NW s := ⟨va_Nw.of rfl (hts _ (tb_3 _ (List.mem_of_getElem? (i := 58) rfl))), va_Nw.of rfl (hts _ (tb_3 _ (List.mem_of_getElem? (i := 43) rfl))), va_Nw.of rfl (hts _ (tb_3 _ (List.mem_of_getElem? (i := 205) rfl))), va_Nw.of rfl (hts _ (tb_3 _ (List.mem_of_getElem? (i := 145) rfl))), va_Nw.of rfl (hts _ (tb_4 _ (List.mem_of_getElem? (i := 82) rfl)))⟩
theorem st_NWc (hts : ∀ w ∈ lw_tbl, w.before args s = true) : NWc s := ⟨va_Nw.of rfl (hts _ (tb_1 _ (List.mem_of_getElem? (i := 50) rfl))), va_Nw.of rfl (hts _ (tb_1 _ (List.mem_of_getElem? (i := 102) rfl))), va_Nw.of rfl (hts _ (tb_1 _ (List.mem_of_getElem? (i := 104) rfl))), va_Nw.of rfl (hts _ (tb_1 _ (List.mem_of_getElem? (i := 200) rfl))), va_Nw.of rfl (hts _ (tb_1 _ (List.mem_of_getElem? (i := 206) rfl))), va_Nw.of rfl (hts _ (tb_2 _ (List.mem_of_getElem? (i := 73) rfl))), va_Nw.of rfl (hts _ (tb_2 _ (List.mem_of_getElem? (i := 102) rfl))), va_Nw.of rfl (hts _ (tb_2 _ (List.mem_of_getElem? (i := 112) rfl))), va_Nw.of rfl (hts _ (tb_2 _ (List.mem_of_getElem? (i := 127) rfl))), va_Nw.of rfl (hts _ (tb_2 _ (List.mem_of_getElem? (i := 129) rfl))), va_AO.of (hts _ (tb_1 _ (List.mem_of_getElem? (i := 39) rfl))), va_AO.of (hts _ (tb_1 _ (List.mem_of_getElem? (i := 41) rfl))), va_AO.of (hts _ (tb_1 _ (List.mem_of_getElem? (i := 185) rfl)))⟩
theorem st_EX (hts : ∀ w ∈ lw_tbl, w.before args s = true) (hg : ∀ w ∈ stL, w.before args s = true) : EXW (Aw s) s := by
  have hA : ∀ a : Nat, a < s.heap.size → ¬ Aw s a := fun a h => Nat.not_le.mpr h
  exact ⟨vx_Zqof (hts _ (tb_5 _ (List.mem_of_getElem? (i := 16) rfl))) (hts _ (tb_1 _ (List.mem_of_getElem? (i := 20) rfl))) (hg _ st_9.2.2.1) hA, vx_Zqof (hts _ (tb_5 _ (List.mem_of_getElem? (i := 18) rfl))) (hts _ (tb_1 _ (List.mem_of_getElem? (i := 20) rfl))) (hg _ st_9.2.2.2) hA, va_Nw.of rfl (hts _ (tb_4 _ (List.mem_of_getElem? (i := 233) rfl))), va_Nw.of rfl (hts _ (tb_4 _ (List.mem_of_getElem? (i := 235) rfl))), va_Nw.of rfl (hts _ (tb_4 _ (List.mem_of_getElem? (i := 237) rfl))), va_Nw.of rfl (hts _ (tb_4 _ (List.mem_of_getElem? (i := 231) rfl)))⟩
theorem st_K (hts : ∀ w ∈ lw_tbl, w.before args s = true) : ∃ (D : va_G) (cy : Nat → ClassId), va_K D vwCl (tysW cy) s := by
  obtain ⟨c0, i0, h0⟩ := u_known (C := RX0) (T := TX0) (N := 3) (n := 3) hts (fun w h => WALL_in w (wix_0 w h)) (hts _ (tb_1 _ (List.mem_of_getElem? (i := 179) rfl)))
  obtain ⟨c1, i1, h1⟩ := u_known (C := RX1) (T := TX1) (N := 4) (n := 4) hts (fun w h => WALL_in w (wix_1 w h)) (hts _ (tb_1 _ (List.mem_of_getElem? (i := 103) rfl)))
  obtain ⟨c2, i2, h2⟩ := u_known (C := RX2) (T := TX2) (N := 5) (n := 5) hts (fun w h => WALL_in w (wix_2 w h)) (hts _ (tb_1 _ (List.mem_of_getElem? (i := 205) rfl)))
  obtain ⟨c3, i3, h3⟩ := u_known (C := RX3) (T := TX3) (N := 3) (n := 3) hts (fun w h => WALL_in w (wix_3 w h)) (hts _ (tb_2 _ (List.mem_of_getElem? (i := 111) rfl)))
  obtain ⟨c4, i4, h4⟩ := u_known (C := RX4) (T := TX4) (N := 4) (n := 4) hts (fun w h => WALL_in w (wix_4 w h)) (hts _ (tb_1 _ (List.mem_of_getElem? (i := 43) rfl)))
  obtain ⟨c5, i5, h5⟩ := u_known (C := RX5) (T := TX5) (N := 1) (n := 1) hts (fun w h => WALL_in w (wix_5 w h)) (hts _ (tb_2 _ (List.mem_of_getElem? (i := 101) rfl)))
  obtain ⟨c6, i6, h6⟩ := u_known (C := RX6) (T := TX6) (N := 8) (n := 8) hts (fun w h => WALL_in w (wix_6 w h)) (hts _ (tb_1 _ (List.mem_of_getElem? (i := 199) rfl)))
  obtain ⟨c7, i7, h7⟩ := u_known (C := RX7) (T := TX7) (N := 2) (n := 2) hts (fun w h => WALL_in w (wix_7 w h)) (hts _ (tb_1 _ (List.mem_of_getElem? (i := 49) rfl)))
  obtain ⟨c8, i8, h8⟩ := u_known (C := RX8) (T := TX8) (N := 6) (n := 6) hts (fun w h => WALL_in w (wix_8 w h)) (hts _ (tb_2 _ (List.mem_of_getElem? (i := 72) rfl)))
  obtain ⟨c9, i9, h9⟩ := u_known (C := RX9) (T := TX9) (N := 10) (n := 10) hts (fun w h => WALL_in w (wix_9 w h)) (hts _ (tb_1 _ (List.mem_of_getElem? (i := 33) rfl)))
  obtain ⟨c10, i10, h10⟩ := u_known (C := RX10) (T := TX10) (N := 14) (n := 14) hts (fun w h => WALL_in w (wix_10 w h)) (hts _ (tb_1 _ (List.mem_of_getElem? (i := 25) rfl)))
  obtain ⟨c11, i11, h11⟩ := u_known (C := RX11) (T := TX11) (N := 44) (n := 44) hts (fun w h => WALL_in w (wix_11 w h)) (hts _ (tb_5 _ (List.mem_of_getElem? (i := 65) rfl)))
  obtain ⟨a0, ka0, co0, f0, g0, e0⟩ := Cond.arrayClass_spec (args := args) (first := s) (o := none) (s := s) (idx := []) (hts _ (tb_1 _ (List.mem_of_getElem? (i := 71) rfl)))
  obtain ⟨a1, ka1, co1, f1, g1, e1⟩ := Cond.arrayClass_spec (args := args) (first := s) (o := none) (s := s) (idx := []) (hts _ (tb_1 _ (List.mem_of_getElem? (i := 72) rfl)))
  obtain ⟨a2, ka2, co2, f2, g2, e2⟩ := Cond.arrayClass_spec (args := args) (first := s) (o := none) (s := s) (idx := []) (hts _ (tb_5 _ (List.mem_of_getElem? (i := 203) rfl)))
  obtain ⟨a3, ka3, co3, f3, g3, e3⟩ := Cond.arrayClass_spec (args := args) (first := s) (o := none) (s := s) (idx := []) (hts _ (tb_1 _ (List.mem_of_getElem? (i := 228) rfl)))
  obtain ⟨co4, a4, ka4, p4, q4, g4, e4, f4⟩ := Cond.arrayOver_spec (args := args) (first := s) (o := none) (s := s) (idx := []) (hts _ (tb_1 _ (List.mem_of_getElem? (i := 41) rfl)))
  obtain ⟨co5, a5, ka5, p5, q5, g5, e5, f5⟩ := Cond.arrayOver_spec (args := args) (first := s) (o := none) (s := s) (idx := []) (hts _ (tb_1 _ (List.mem_of_getElem? (i := 185) rfl)))
  obtain ⟨co6, a6, ka6, p6, q6, g6, e6, f6⟩ := Cond.arrayOver_spec (args := args) (first := s) (o := none) (s := s) (idx := []) (hts _ (tb_1 _ (List.mem_of_getElem? (i := 39) rfl)))
  refine ⟨(fun k => [c0, c1, c2, c3, c4, c5, c6, c7, c8, c9, c10, c11].getD k c0, fun k => [i0, i1, i2, i3, i4, i5, i6, i7, i8, i9, i10, i11].getD k i0), fun k => [a0, a1, a2, a3, a4, a5, a6].getD k a0, ?_, ?_⟩
  · intro k q hq
    match k, hq with
    | 0, hq => cases hq; exact h0
    | 1, hq => cases hq; exact h1
    | 2, hq => cases hq; exact h2
    | 3, hq => cases hq; exact h3
    | 4, hq => cases hq; exact h4
    | 5, hq => cases hq; exact h5
    | 6, hq => cases hq; exact h6
    | 7, hq => cases hq; exact h7
    | 8, hq => cases hq; exact h8
    | 9, hq => cases hq; exact h9
    | 10, hq => cases hq; exact h10
    | 11, hq => cases hq; exact h11
    | k + 12, hq => simp at hq
  · intro k q hq
    match k, hq with
    | 0, hq => cases hq; exact ⟨fun N z => ⟨(fun k h => by cases h), _, g0, _, e0⟩, f0⟩
    | 1, hq => cases hq; exact ⟨fun N z => ⟨(fun k h => by cases h), _, g1, _, e1⟩, f1⟩
    | 2, hq => cases hq; exact ⟨fun N z => ⟨(fun k h => by cases h), _, g2, _, e2⟩, f2⟩
    | 3, hq => cases hq; exact ⟨fun N z => ⟨(fun k h => by cases h), _, g3, _, e3⟩, f3⟩
    | 4, hq => cases hq; exact ⟨fun N z => ⟨(fun k h => by cases h), _, g4, _, e4⟩, _, _, g4, e4, p4, f4⟩
    | 5, hq => cases hq; exact ⟨fun N z => ⟨(fun k h => by cases h), _, g5, _, e5⟩, _, _, g5, e5, p5, f5⟩
    | 6, hq => cases hq; exact ⟨fun N z => ⟨(fun k h => by cases h), _, g6, _, e6⟩, _, _, g6, e6, p6, f6⟩
    | k + 7, hq => simp at hq
end ST
def sX0 : St := (fun j => if j = 0 then (fun k => if k = 2 then 2 else if k = 3 then 44 else 0) else if j = 2 then (fun k => if k = 0 then 7 else 0) else if j = 44 then (fun k => if k = 0 then 7 else 0) else if j = 285 then (fun k => if k = 4 then 3 else 0) else if j = 290 then (upd (upd (upd (upd (upd (upd (fun _ => 0) 0 (pk 0)) 1 (pk 1)) 2 (pk 2)) 3 (pk 3)) 4 (pk 4)) 5 (pk 5)) else (fun _ => 0), fun _ _ => 0)
def sM0 : St := (fun j => if j = 2 then (upd (upd (fun _ => 0) 0 (7 : Int32)) 1 (7 : Int32)) else (fun _ => 0), fun _ _ => 0)
set_option maxRecDepth 100000 in
set_option maxHeartbeats 4000000 in
theorem bX10_eq (cy : Nat → ClassId) (B : Nat) : ∀ j, j < 346 → (bX10 cy B 0)[j]? = some (eW cy B (sX0.1 j) (sX0.2 j) j (kX.getD j 0)) := by
  intro j hj
  match j, hj with
  | 0, _ => rfl
  | 1, _ => rfl
  | 2, _ => rfl
  | 3, _ => rfl
  | 4, _ => rfl
  | 5, _ => rfl
  | 6, _ => rfl
  | 7, _ => rfl
  | 8, _ => rfl
  | 9, _ => rfl
  | 10, _ => rfl
  | 11, _ => rfl
  | 12, _ => rfl
  | 13, _ => rfl
  | 14, _ => rfl
  | 15, _ => rfl
  | 16, _ => rfl
  | 17, _ => rfl
  | 18, _ => rfl
  | 19, _ => rfl
  | 20, _ => rfl
  | 21, _ => rfl
  | 22, _ => rfl
  | 23, _ => rfl
  | 24, _ => rfl
  | 25, _ => rfl
  | 26, _ => rfl
  | 27, _ => rfl
  | 28, _ => rfl
  | 29, _ => rfl
  | 30, _ => rfl
  | 31, _ => rfl
  | 32, _ => rfl
  | 33, _ => rfl
  | 34, _ => rfl
  | 35, _ => rfl
  | 36, _ => rfl
  | 37, _ => rfl
  | 38, _ => rfl
  | 39, _ => rfl
  | 40, _ => rfl
  | 41, _ => rfl
  | 42, _ => rfl
  | 43, _ => rfl
  | 44, _ => rfl
  | 45, _ => rfl
  | 46, _ => rfl
  | 47, _ => rfl
  | 48, _ => rfl
  | 49, _ => rfl
  | 50, _ => rfl
  | 51, _ => rfl
  | 52, _ => rfl
  | 53, _ => rfl
  | 54, _ => rfl
  | 55, _ => rfl
  | 56, _ => rfl
  | 57, _ => rfl
  | 58, _ => rfl
  | 59, _ => rfl
  | 60, _ => rfl
  | 61, _ => rfl
  | 62, _ => rfl
  | 63, _ => rfl
  | 64, _ => rfl
  | 65, _ => rfl
  | 66, _ => rfl
  | 67, _ => rfl
  | 68, _ => rfl
  | 69, _ => rfl
  | 70, _ => rfl
  | 71, _ => rfl
  | 72, _ => rfl
  | 73, _ => rfl
  | 74, _ => rfl
  | 75, _ => rfl
  | 76, _ => rfl
  | 77, _ => rfl
  | 78, _ => rfl
  | 79, _ => rfl
  | 80, _ => rfl
  | 81, _ => rfl
  | 82, _ => rfl
  | 83, _ => rfl
  | 84, _ => rfl
  | 85, _ => rfl
  | 86, _ => rfl
  | 87, _ => rfl
  | 88, _ => rfl
  | 89, _ => rfl
  | 90, _ => rfl
  | 91, _ => rfl
  | 92, _ => rfl
  | 93, _ => rfl
  | 94, _ => rfl
  | 95, _ => rfl
  | 96, _ => rfl
  | 97, _ => rfl
  | 98, _ => rfl
  | 99, _ => rfl
  | 100, _ => rfl
  | 101, _ => rfl
  | 102, _ => rfl
  | 103, _ => rfl
  | 104, _ => rfl
  | 105, _ => rfl
  | 106, _ => rfl
  | 107, _ => rfl
  | 108, _ => rfl
  | 109, _ => rfl
  | 110, _ => rfl
  | 111, _ => rfl
  | 112, _ => rfl
  | 113, _ => rfl
  | 114, _ => rfl
  | 115, _ => rfl
  | 116, _ => rfl
  | 117, _ => rfl
  | 118, _ => rfl
  | 119, _ => rfl
  | 120, _ => rfl
  | 121, _ => rfl
  | 122, _ => rfl
  | 123, _ => rfl
  | 124, _ => rfl
  | 125, _ => rfl
  | 126, _ => rfl
  | 127, _ => rfl
  | 128, _ => rfl
  | 129, _ => rfl
  | 130, _ => rfl
  | 131, _ => rfl
  | 132, _ => rfl
  | 133, _ => rfl
  | 134, _ => rfl
  | 135, _ => rfl
  | 136, _ => rfl
  | 137, _ => rfl
  | 138, _ => rfl
  | 139, _ => rfl
  | 140, _ => rfl
  | 141, _ => rfl
  | 142, _ => rfl
  | 143, _ => rfl
  | 144, _ => rfl
  | 145, _ => rfl
  | 146, _ => rfl
  | 147, _ => rfl
  | 148, _ => rfl
  | 149, _ => rfl
  | 150, _ => rfl
  | 151, _ => rfl
  | 152, _ => rfl
  | 153, _ => rfl
  | 154, _ => rfl
  | 155, _ => rfl
  | 156, _ => rfl
  | 157, _ => rfl
  | 158, _ => rfl
  | 159, _ => rfl
  | 160, _ => rfl
  | 161, _ => rfl
  | 162, _ => rfl
  | 163, _ => rfl
  | 164, _ => rfl
  | 165, _ => rfl
  | 166, _ => rfl
  | 167, _ => rfl
  | 168, _ => rfl
  | 169, _ => rfl
  | 170, _ => rfl
  | 171, _ => rfl
  | 172, _ => rfl
  | 173, _ => rfl
  | 174, _ => rfl
  | 175, _ => rfl
  | 176, _ => rfl
  | 177, _ => rfl
  | 178, _ => rfl
  | 179, _ => rfl
  | 180, _ => rfl
  | 181, _ => rfl
  | 182, _ => rfl
  | 183, _ => rfl
  | 184, _ => rfl
  | 185, _ => rfl
  | 186, _ => rfl
  | 187, _ => rfl
  | 188, _ => rfl
  | 189, _ => rfl
  | 190, _ => rfl
  | 191, _ => rfl
  | 192, _ => rfl
  | 193, _ => rfl
  | 194, _ => rfl
  | 195, _ => rfl
  | 196, _ => rfl
  | 197, _ => rfl
  | 198, _ => rfl
  | 199, _ => rfl
  | 200, _ => rfl
  | 201, _ => rfl
  | 202, _ => rfl
  | 203, _ => rfl
  | 204, _ => rfl
  | 205, _ => rfl
  | 206, _ => rfl
  | 207, _ => rfl
  | 208, _ => rfl
  | 209, _ => rfl
  | 210, _ => rfl
  | 211, _ => rfl
  | 212, _ => rfl
  | 213, _ => rfl
  | 214, _ => rfl
  | 215, _ => rfl
  | 216, _ => rfl
  | 217, _ => rfl
  | 218, _ => rfl
  | 219, _ => rfl
  | 220, _ => rfl
  | 221, _ => rfl
  | 222, _ => rfl
  | 223, _ => rfl
  | 224, _ => rfl
  | 225, _ => rfl
  | 226, _ => rfl
  | 227, _ => rfl
  | 228, _ => rfl
  | 229, _ => rfl
  | 230, _ => rfl
  | 231, _ => rfl
  | 232, _ => rfl
  | 233, _ => rfl
  | 234, _ => rfl
  | 235, _ => rfl
  | 236, _ => rfl
  | 237, _ => rfl
  | 238, _ => rfl
  | 239, _ => rfl
  | 240, _ => rfl
  | 241, _ => rfl
  | 242, _ => rfl
  | 243, _ => rfl
  | 244, _ => rfl
  | 245, _ => rfl
  | 246, _ => rfl
  | 247, _ => rfl
  | 248, _ => rfl
  | 249, _ => rfl
  | 250, _ => rfl
  | 251, _ => rfl
  | 252, _ => rfl
  | 253, _ => rfl
  | 254, _ => rfl
  | 255, _ => rfl
  | 256, _ => rfl
  | 257, _ => rfl
  | 258, _ => rfl
  | 259, _ => rfl
  | 260, _ => rfl
  | 261, _ => rfl
  | 262, _ => rfl
  | 263, _ => rfl
  | 264, _ => rfl
  | 265, _ => rfl
  | 266, _ => rfl
  | 267, _ => rfl
  | 268, _ => rfl
  | 269, _ => rfl
  | 270, _ => rfl
  | 271, _ => rfl
  | 272, _ => rfl
  | 273, _ => rfl
  | 274, _ => rfl
  | 275, _ => rfl
  | 276, _ => rfl
  | 277, _ => rfl
  | 278, _ => rfl
  | 279, _ => rfl
  | 280, _ => rfl
  | 281, _ => rfl
  | 282, _ => rfl
  | 283, _ => rfl
  | 284, _ => rfl
  | 285, _ => rfl
  | 286, _ => rfl
  | 287, _ => rfl
  | 288, _ => rfl
  | 289, _ => rfl
  | 290, _ => rfl
  | 291, _ => rfl
  | 292, _ => rfl
  | 293, _ => rfl
  | 294, _ => rfl
  | 295, _ => rfl
  | 296, _ => rfl
  | 297, _ => rfl
  | 298, _ => rfl
  | 299, _ => rfl
  | 300, _ => rfl
  | 301, _ => rfl
  | 302, _ => rfl
  | 303, _ => rfl
  | 304, _ => rfl
  | 305, _ => rfl
  | 306, _ => rfl
  | 307, _ => rfl
  | 308, _ => rfl
  | 309, _ => rfl
  | 310, _ => rfl
  | 311, _ => rfl
  | 312, _ => rfl
  | 313, _ => rfl
  | 314, _ => rfl
  | 315, _ => rfl
  | 316, _ => rfl
  | 317, _ => rfl
  | 318, _ => rfl
  | 319, _ => rfl
  | 320, _ => rfl
  | 321, _ => rfl
  | 322, _ => rfl
  | 323, _ => rfl
  | 324, _ => rfl
  | 325, _ => rfl
  | 326, _ => rfl
  | 327, _ => rfl
  | 328, _ => rfl
  | 329, _ => rfl
  | 330, _ => rfl
  | 331, _ => rfl
  | 332, _ => rfl
  | 333, _ => rfl
  | 334, _ => rfl
  | 335, _ => rfl
  | 336, _ => rfl
  | 337, _ => rfl
  | 338, _ => rfl
  | 339, _ => rfl
  | 340, _ => rfl
  | 341, _ => rfl
  | 342, _ => rfl
  | 343, _ => rfl
  | 344, _ => rfl
  | 345, _ => rfl
  | j + 346, hj => exact absurd hj (by omega)
set_option maxRecDepth 100000 in
set_option maxHeartbeats 4000000 in
theorem bX11_eq (cy : Nat → ClassId) (B : Nat) : ∀ j, j < 26 → (bX11 cy B 0)[j]? = some (eW cy B (sM0.1 j) (sM0.2 j) j (kM.getD j 0)) := by
  intro j hj
  match j, hj with
  | 0, _ => rfl
  | 1, _ => rfl
  | 2, _ => rfl
  | 3, _ => rfl
  | 4, _ => rfl
  | 5, _ => rfl
  | 6, _ => rfl
  | 7, _ => rfl
  | 8, _ => rfl
  | 9, _ => rfl
  | 10, _ => rfl
  | 11, _ => rfl
  | 12, _ => rfl
  | 13, _ => rfl
  | 14, _ => rfl
  | 15, _ => rfl
  | 16, _ => rfl
  | 17, _ => rfl
  | 18, _ => rfl
  | 19, _ => rfl
  | 20, _ => rfl
  | 21, _ => rfl
  | 22, _ => rfl
  | 23, _ => rfl
  | 24, _ => rfl
  | 25, _ => rfl
  | j + 26, hj => exact absurd hj (by omega)
theorem wW_of {D : va_G} {cy : Nat → ClassId} {B n : Nat} {ks : List Nat} {σ : St} {M : List va_E} {H : Heap} (hn : ks.length = n) (he : ∀ j, j < n → M[j]? = some (eW cy B (σ.1 j) (σ.2 j) j (ks.getD j 0))) (h : va_P D vwCl (rgL B 0 M) H) : va_P D vwCl (wW cy B ks σ) H := by
  intro k q hk
  have hkl : k < n := by
    have := (List.getElem?_eq_some_iff.mp hk).1
    simp [wW] at this
    omega
  have h2 := h k _ (rgL_at (he k hkl))
  have e2 : (wW cy B ks σ)[k]? = some (B + k, eW cy B (σ.1 k) (σ.2 k) k (ks.getD k 0)) := by
    simp [wW, hn, hkl]
  rw [e2] at hk
  cases hk
  rw [show B + (0 + k) = B + k by omega] at h2
  exact h2
theorem rgL_shift (B n : Nat) (M : List va_E) : rgL B (0 + n) M = rgL (B + n) 0 M := by
  simp only [rgL]
  apply List.map_congr_left
  intro j _
  rw [show B + (0 + n + j) = B + n + (0 + j) by omega]
theorem gL_C {y : MethodName} {bytes : ByteArray} {maxL : Nat} {ret : Option FieldType} (h5 : Cond.code y bytes maxL ret ∈ lw_tbl) (hg : goodWord (Cond.code y bytes maxL ret) = true) : GoodIn lw_tbl (Cond.code y bytes maxL ret :: WALL) := fun w h => by
  rcases List.mem_cons.mp h with rfl | h
  · exact ⟨h5, good_of_word hg⟩
  · exact ⟨WALL_in w h, good_of_word (WALL_good w h)⟩
section LN
variable {p : Program} {l : Launch} {e : Env} {s : State} {m : MethodId} {below : List Frame} {meth : Method} {c : Code} {H : Heap} {locs : List Loc} {cells slots : Nat} {Q : State → Prop} {pc : Nat} {ls : Array Slot} {rest : List Value} {D : va_G} {cy : Nat → ClassId} {b B o : Nat} {L : List va_E}
theorem ln_new (K0 : CallFix p m c code 7 s #[Value.ref b] lw_tbl RL) (hK : va_K D vwCl (tysW cy) s) (h : hC D B o L s H locs) {C : String} {T : u_T} {N ci index n : Nat} (hLn : L.length = n) (hin : ∀ w ∈ u_ws C T N, w ∈ WALL) (ty : Nat → FieldType) (hty : ∀ k, k < N → parseFieldDescriptor (T k).2.2.1 = some (ty k)) (hcl : Cond.classLink RL index C ∈ lw_tbl) (hinst : Cond.instantiable C N ∈ lw_tbl) (hini : Cond.initialized C ∈ lw_tbl) (hc : vwCl[ci]? = some (C, T, N)) {fs : List Value} (hfs : ∀ j, j < N → defaultValue (ty j) = vp_V fs j) (hcells : cells + 1 ≤ 601024) (hslots : slots + N ≤ 7293034) (hdg : decode code pc = .ok (.new index, 3))
    (kk : ∀ (H : Heap), hC D B o (L ++ [.inr (ci, fs)]) s H locs → W p l e room_1 s m #[Value.ref b] below meth c H locs (cells + 1) (slots + N) Q (F0 m (pc + 3) ls (.ref (B + (o + n)) :: rest))) : W p l e room_1 s m #[Value.ref b] below meth c H locs cells slots Q (F0 m pc ls rest) := by
  obtain ⟨hx, hb, hml, hown, hts⟩ := K0
  subst hLn
  have hKn := hK.1 ci _ hc
  refine W.newcK hx hb hown (hts _ hcl) (hts _ hinst) (hts _ hini) rfl hdg hcells hslots hKn.2.1 h.2.1 fun H1 kC hkC e1 z1 o1 => ?_
  exact kk H1 (h.push ⟨_, hc, (u_born ty hts (fun w h => WALL_in w (hin w h)) hKn hkC e1 hty).to hfs⟩ (by rw [z1, h.2.1]) (fun q hq => o1 q (by rw [← h.2.1]; exact hq)))
theorem ln_pre (hK : va_K D vwCl (tysW cy) s) (hN2 : NWc s) (hZ : SWa (Aw s) s) {n : Nat} {x : va_E} (hLn : L.length = n) (h : hC D s.heap.size 0 (L ++ [x]) s H locs) : PreS s H (PcN D cy (s.heap.size + n) 0 x) [.ref (s.heap.size + n + 0)] := by
  refine ⟨PcN.blind, fun U hU hW => ⟨rfl, ?_, ?_, va_K.moved hW.alike hK, hN2.warm hW, ?_⟩⟩
  · rw [hU, h.2.1, List.length_append, hLn]
    simp
    omega
  · rw [hU, ← rgL_shift]
    exact rgL_right hLn h.1
  · refine (hZ.keep hW (fun a h1 h2 => by rw [hU]; exact h.2.2.2.1 a h1 (fun z => h2 (by have z2 : s.heap.size + 0 ≤ a := z; show s.heap.size ≤ a; omega)))).narrow (fun q hq => ?_)
    have z2 : s.heap.size + n + 0 ≤ q := hq
    show s.heap.size ≤ q
    omega
theorem ln_call {n mc ms : Nat} {x : va_E} {M : List va_E} (hLn : L.length = n) (h : hC D s.heap.size 0 (L ++ [x]) s H locs) {a : Array Value} {st0 : List Value} (run : va_Run p l e room_1 s m #[Value.ref b] below meth c H locs cells slots mc ms (F0 m pc ls st0) rest (QcN D cy (s.heap.size + n) 0 M a) (AN (s.heap.size + n) 0))
    (kk : ∀ (H : Heap) (locs : List Loc), va_P D vwCl (rgL s.heap.size 0 L) H → va_P D vwCl (rgL (s.heap.size + n) 0 M) H → H.size = s.heap.size + (0 + (L ++ M).length) → va_S (Aw s) s.heap H locs → W p l e room_1 s m #[Value.ref b] below meth c H locs (cells + mc) (slots + ms) Q (F0 m (pc + 3) ls rest)) : W p l e room_1 s m #[Value.ref b] below meth c H locs cells slots Q (F0 m pc ls st0) := by
  have hAA : ∀ q, AN (s.heap.size + n) 0 q → Aw s q := fun q hq => by
    have : s.heap.size + n + 0 ≤ q := hq
    show s.heap.size ≤ q
    omega
  have hS0 : va_S (Aw s) s.heap H locs := h.2.2
  refine va_callv run hS0 (fun q _ hq => hAA q hq) hAA (fun u t H1 locs1 ht hvm hp hB hz hk hS1 => ?_)
  obtain ⟨b1, b2, b3⟩ := hB
  rw [ht] at b1 b2
  refine kk H1 locs1 ((rgL_left h.1).kept (fun k q hq => hk _ (((rgL_left h.1) k q hq).lt) (fun z => ?_))) b2 (by rw [b1, List.length_append, hLn]; omega) hS1
  obtain ⟨e1, e2, e3⟩ := rgL_of hq
  have z2 : s.heap.size + n + 0 ≤ q.1 := z
  omega
end LN
set_option maxRecDepth 100000 in
set_option maxHeartbeats 4000000 in
theorem whole_start0 {p : Program} {e : Env} {s : State} {m : MethodId} {below : List Frame} {meth : Method} {c : Code} (l : Launch) (hflags : l.flags = flags0) {b L : Nat} {xs : Nat → Int32} (hL : L ≤ 3072) (C0 : lw_At p s m meth c b L xs) {Rel : St → St → Prop} (hsim : Sim Rel) (hrel : Rel sX0 sM0) : W p l e room_1 s m #[Value.ref b] below meth c s.heap [] 0 0 (lw_Z below #[Value.ref b] s) (entryFrame m ([Value.ref b] : List Value).toArray 7) := by
  obtain ⟨hx, hb, hr, hml, hown, hts, hX, hbl, hlocks, hgv⟩ := id C0
  have K0 : CallFix p m c code 7 s #[Value.ref b] lw_tbl RL := ⟨hx, hb, hml, hown, hts⟩
  have hg : ∀ w ∈ stL, w.before #[Value.ref b] s = true := flat_of_before _ hgv
  obtain ⟨D, cy, hK⟩ := st_K hts
  have hN := st_NW hts
  have hNc := st_NWc hts
  have hZ := st_SW hts hg
  have hE := st_EX hts hg
  have hfl : l.stackTraces = false := by
    show (!l.flags.contains noTraceFlag) = false
    rw [hflags]
    simp [flags0]
  have hc : hC D s.heap.size 0 [] s s.heap [] := ⟨fun k q hk => by simp [rgL] at hk, rfl, va_S.rf⟩
  have hl := lv_entry ([.ref b]) (n := 7) (Nat.le_of_ble_eq_true rfl)
  rw [lg_entry_eq]
  generalize (lg_sl ([.ref b]) ++ List.replicate (7 - (lg_sl ([.ref b])).length) Slot.unset).toArray = ls at hl ⊢
  have hl : lv_has ls 7 [(0, .ref b)] := hl
  refine ln_new K0 hK hc (C := RX10) (T := TX10) (N := 14) (ci := 10) (n := 0) (fs := [.null, .int 0, .null, .null, .null, .null, .null, .null, .null, .null, .null, .null, .null, .null]) rfl wix_10 tyX10 tyX10_ok (tb_1 _ (List.mem_of_getElem? (i := 24) rfl)) (tb_1 _ (List.mem_of_getElem? (i := 25) rfl)) (tb_1 _ (List.mem_of_getElem? (i := 1) rfl)) rfl (fun j hj => by revert j; decide) (by omega) (by omega) dL_law_0 (fun H hc => ?_)
  rw [show s.heap.size + (0 + 0) = s.heap.size + 0 + 0 by omega]
  refine lv_dup hx hb dL_law_3 rfl ?_
  refine ln_call (n := 0) (M := bX10 cy s.heap.size 0) rfl hc (va_runI (As := []) (rest := [.ref (s.heap.size + 0 + 0)]) K0 (mX10_init l D cy (s.heap.size + 0) 0 rfl) (cwI 0 hts (gL_C (tb_1 _ (List.mem_of_getElem? (i := 28) rfl)) (by decide +kernel)) rfl rfl rfl (hts _ (tb_1 _ (List.mem_of_getElem? (i := 1) rfl))) (hts _ (tb_1 _ (List.mem_of_getElem? (i := 26) rfl))) (hts _ (tb_1 _ (List.mem_of_getElem? (i := 27) rfl))) rfl (by decide +kernel) ⟨Nat.le_of_ble_eq_true rfl, Nat.le_of_ble_eq_true rfl⟩) (ln_pre hK hNc hZ (n := 0) rfl hc) rfl rfl hl.1 rfl (lv_room (Nat.le_of_ble_eq_true rfl)) dL_law_4 ⟨Nat.le_of_ble_eq_true rfl, Nat.le_of_ble_eq_true rfl⟩) (fun H locs hP0 hPX hz hS => ?_)
  have hz : H.size = s.heap.size + 346 := by
    rw [hz, List.length_append, bX10_len]
    simp
  refine lv_astore_n (lv' := [(1, .ref (s.heap.size + 0 + 0)), (0, .ref b)]) hx hb dL_law_7 rfl hl (by decide) rfl (fun ls hl => ?_)
  have hc : hC D s.heap.size 0 (bX10 cy s.heap.size 0) s H locs := ⟨hPX, by rw [hz, bX10_len, Nat.zero_add], hS⟩
  refine ln_new K0 hK hc (C := RX11) (T := TX11) (N := 44) (ci := 11) (n := 346) (fs := [.int 0, .null, .int 0, .int 0, .int 0, .int 0, .int 0, .int 0, .long 0, .int 0, .int 0, .int 0, .int 0, .null, .null, .null, .null, .null, .null, .null, .null, .null, .null, .null, .int 0, .null, .long 0, .null, .null, .int 0, .null, .null, .int 0, .null, .null, .null, .int 0, .null, .null, .int 0, .null, .null, .null, .int 0]) (bX10_len _ _ _) wix_11 tyX11 tyX11_ok (tb_5 _ (List.mem_of_getElem? (i := 64) rfl)) (tb_5 _ (List.mem_of_getElem? (i := 65) rfl)) (tb_1 _ (List.mem_of_getElem? (i := 16) rfl)) rfl (fun j hj => by revert j; decide) (by omega) (by omega) dL_law_8 (fun H hc => ?_)
  rw [show s.heap.size + (0 + 346) = s.heap.size + 346 + 0 by omega]
  refine lv_dup hx hb dL_law_11 rfl ?_
  refine ln_call (n := 346) (M := bX11 cy (s.heap.size + 346) 0) (bX10_len _ _ _) hc (va_runI (As := []) (rest := [.ref (s.heap.size + 346 + 0)]) K0 (mX11_init l D cy (s.heap.size + 346) 0) (cwI 0 hts (gL_C (tb_5 _ (List.mem_of_getElem? (i := 68) rfl)) (by decide +kernel)) rfl rfl rfl (hts _ (tb_1 _ (List.mem_of_getElem? (i := 16) rfl))) (hts _ (tb_5 _ (List.mem_of_getElem? (i := 66) rfl))) (hts _ (tb_5 _ (List.mem_of_getElem? (i := 67) rfl))) rfl (by decide +kernel) ⟨Nat.le_of_ble_eq_true rfl, Nat.le_of_ble_eq_true rfl⟩) (ln_pre hK hNc hZ (n := 346) (bX10_len _ _ _) hc) rfl rfl hl.1 rfl (lv_room (Nat.le_of_ble_eq_true rfl)) dL_law_12 ⟨Nat.le_of_ble_eq_true rfl, Nat.le_of_ble_eq_true rfl⟩) (fun H locs hPX hPM hz hS => ?_)
  have hz : H.size = s.heap.size + 372 := by
    rw [hz, List.length_append, bX10_len, bX11_len]
  refine lv_astore_n (lv' := [(2, .ref (s.heap.size + 346 + 0)), (1, .ref (s.heap.size + 0 + 0)), (0, .ref b)]) hx hb dL_law_15 rfl hl (by decide) rfl (fun ls hl => ?_)
  refine lv_iconst (v := (1 : Int32)) hx hb dL_law_16 (by decide) ?_
  refine va_newaK hx hb (atype := .long) (hts _ (tb_5 _ (List.mem_of_getElem? (i := 203) rfl))) rfl dL_law_17 rfl (by decide) (N := 1) (by decide) (by decide) (by decide) (by decide) hz fun H1 cA e1 z1 o1 hAr hNm => ?_
  have hcA : cA = cy 2 := Option.some.inj (hNm.symm.trans (hK.2 2 _ rfl).2)
  subst hcA
  have hPX1 : va_P D vwCl (wW cy s.heap.size kX sX0) H1 := wW_of kX_len (bX10_eq cy _) (hPX.kept (fun k q hk => o1 _ (by rw [← hz]; exact (hPX k q hk).lt)))
  have hPM1 : va_P D vwCl (wW cy (s.heap.size + 346) kM sM0) H1 := wW_of kM_len (bX11_eq cy _) (hPM.kept (fun k q hk => o1 _ (by rw [← hz]; exact (hPM k q hk).lt)))
  have hPO : va_P D vwCl (wO cy (s.heap.size + 372) (fun _ => 0)) H1 := by
    intro k q hk
    match k, hk with
    | 0, hk =>
      cases hk
      show H1[_]? = some (vp_cell _ _)
      exact e1
  have hS1 : va_S (Aw s) s.heap H1 locs := ⟨by omega, fun q h1 h2 => (o1 q (by have := hS.1; omega)).trans (hS.2.1 q h1 h2), hS.2.2⟩
  refine lv_astore_n (lv' := [(3, .ref (s.heap.size + 372)), (2, .ref (s.heap.size + 346 + 0)), (1, .ref (s.heap.size + 0 + 0)), (0, .ref b)]) hx hb dL_law_19 rfl hl (by decide) rfl (fun ls hl => ?_)
  refine lv_iconst (v := (0 : Int32)) hx hb dL_law_20 (by decide) ?_
  refine lv_istore (lv' := [(4, .int 0), (3, .ref (s.heap.size + 372)), (2, .ref (s.heap.size + 346 + 0)), (1, .ref (s.heap.size + 0 + 0)), (0, .ref b)]) hx hb dL_law_21 hl (by decide) rfl (fun ls hl => ?_)
  have K : kL p l s m c D cy b L xs s.heap.size (s.heap.size + 346) (s.heap.size + 372) := ⟨K0, hK, hN, hZ, hE, hX, hbl, hfl, Nat.le_refl _, Nat.le_refl _, by omega⟩
  exact law_loop K hL hr hlocks hsim 512 0 _ _ sX0 sM0 (fun _ => 0) H1 locs ls (by omega) (by omega) (by omega) (by omega) hrel ⟨hPX1, hPM1, hPO, hS1⟩ (lv_sub hl [4, 3, 2, 1, 0] rfl)
