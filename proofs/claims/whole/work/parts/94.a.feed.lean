/-! feed -/
def byF (v : Int32) (k : Nat) : Int32 := (v >>> (nI k &&& 31)).toInt8.toInt32
theorem by_24 (x : Int32) : ((x.toUInt32 >>> ((nI 24).toUInt32 &&& Int32.toUInt32 31)).toInt32).toInt8.toInt32 = byF x 24 := by
  unfold byF
  congr 1
  apply Int8.toBitVec_inj.1
  apply BitVec.eq_of_getLsbD_eq
  intro i hi
  show ((x.toBitVec >>> 24).signExtend 8).getLsbD i = ((x.toBitVec.sshiftRight 24).signExtend 8).getLsbD i
  have h3 : i < 32 := by omega
  rw [BitVec.getLsbD_signExtend, BitVec.getLsbD_signExtend, if_pos h3, if_pos h3, BitVec.getLsbD_sshiftRight, BitVec.getLsbD_ushiftRight]
  simp [show ¬ 32 ≤ i by omega, show 24 + i < 32 by omega]
theorem by_16 (x : Int32) : ((x.toUInt32 >>> ((nI 16).toUInt32 &&& Int32.toUInt32 31)).toInt32).toInt8.toInt32 = byF x 16 := by
  unfold byF
  congr 1
  apply Int8.toBitVec_inj.1
  apply BitVec.eq_of_getLsbD_eq
  intro i hi
  show ((x.toBitVec >>> 16).signExtend 8).getLsbD i = ((x.toBitVec.sshiftRight 16).signExtend 8).getLsbD i
  have h3 : i < 32 := by omega
  rw [BitVec.getLsbD_signExtend, BitVec.getLsbD_signExtend, if_pos h3, if_pos h3, BitVec.getLsbD_sshiftRight, BitVec.getLsbD_ushiftRight]
  simp [show ¬ 32 ≤ i by omega, show 16 + i < 32 by omega]
theorem by_8 (x : Int32) : ((x.toUInt32 >>> ((nI 8).toUInt32 &&& Int32.toUInt32 31)).toInt32).toInt8.toInt32 = byF x 8 := by
  unfold byF
  congr 1
  apply Int8.toBitVec_inj.1
  apply BitVec.eq_of_getLsbD_eq
  intro i hi
  show ((x.toBitVec >>> 8).signExtend 8).getLsbD i = ((x.toBitVec.sshiftRight 8).signExtend 8).getLsbD i
  have h3 : i < 32 := by omega
  rw [BitVec.getLsbD_signExtend, BitVec.getLsbD_signExtend, if_pos h3, if_pos h3, BitVec.getLsbD_sshiftRight, BitVec.getLsbD_ushiftRight]
  simp [show ¬ 32 ≤ i by omega, show 8 + i < 32 by omega]
theorem by_0 (x : Int32) : ((x.toUInt32 >>> ((nI 0).toUInt32 &&& Int32.toUInt32 31)).toInt32).toInt8.toInt32 = byF x 0 := by
  unfold byF
  congr 1
  apply Int8.toBitVec_inj.1
  apply BitVec.eq_of_getLsbD_eq
  intro i hi
  show ((x.toBitVec >>> 0).signExtend 8).getLsbD i = ((x.toBitVec.sshiftRight 0).signExtend 8).getLsbD i
  have h3 : i < 32 := by omega
  rw [BitVec.getLsbD_signExtend, BitVec.getLsbD_signExtend, if_pos h3, if_pos h3, BitVec.getLsbD_sshiftRight, BitVec.getLsbD_ushiftRight]
  simp [show ¬ 32 ≤ i by omega, show 0 + i < 32 by omega, h3]
theorem by_all (x : Int32) {k : Nat} (h : k = 0 ∨ k = 8 ∨ k = 16 ∨ k = 24) : ((x.toUInt32 >>> ((nI k).toUInt32 &&& Int32.toUInt32 31)).toInt32).toInt8.toInt32 = byF x k := by
  rcases h with rfl | rfl | rfl | rfl
  · exact by_0 x
  · exact by_8 x
  · exact by_16 x
  · exact by_24 x
def layF (tp : Nat → Int32) (L : Nat) (x : Int32) : Nat → Int32 := fun i => if i = L then x else tp i
def lay4 (tp : Nat → Int32) (L : Nat) (v : Int32) : Nat → Int32 := layF (layF (layF (layF tp L (byF v 24)) (L + 1) (byF v 16)) (L + 2) (byF v 8)) (L + 3) (byF v 0)
section FD
variable {t P tn bn nn : Nat} {lg tof : Nat → Nat} {tv bv : Nat → Nat → Int32} {L L' : Nat} {tp tp' : Nat → Int32} {nw nw' : NetT} {sz old sz' old' : Nat} {ac ac' : Nat → NetT} {kb kb' : Nat → Bool} {kn kn' : Nat → NetT} {σ τ σ' τ' : St} {nl : Nat → Nat} {w : NetT} {N j : Nat}
def TpX (L : Nat) (tp : Nat → Int32) (f : Nat) (σ : St) : Prop := σ.1 0 f = nI L ∧ ∀ i, i < L → σ.1 1 i = tp i
theorem TpX.put {f : Nat} {x : Int32} (h : TpX L tp f σ) : TpX (L + 1) (layF tp L x) f (u1 (u1 σ 1 L x) 0 f (nI (L + 1))) := by
  refine ⟨by rw [u1_s, pk_us], fun i hi => ?_⟩
  rw [u1_n (by decide), u1_s]
  unfold layF
  by_cases e : i = L
  · rw [if_pos e, e, pk_us]
  · rw [if_neg e, pk_un e]; exact h.2 i (by omega)
theorem c_lay1 {v : Int32} {n k : Nat} {post : St → Prop} (h : TpX L tp 1 σ) (hL : L < 700) (hk : k = 0 ∨ k = 8 ∨ k = 16 ∨ k = 24) (kk : wX10_layOnTape_3 post n 0 v (nI k + (-8 : Int32)) (u1 (u1 σ 1 L (byF v k)) 0 1 (nI (L + 1)))) : wX10_layOnTape_3 post (n + 1) 0 v (nI k) σ := by
  unfold wX10_layOnTape_3
  simp only [Nat.zero_add]
  rw [h.1, pk_vb, by_all v hk]
  refine ⟨fun q => absurd q (nI_pos (by omega)), fun _ => ⟨fun q => absurd q (nI_ge (a := L) (b := 700) hL (by decide)), fun _ => ⟨vp_in_nI hL (by decide), ?_⟩⟩⟩
  rintro _ rfl
  rw [nI_clamp (by omega), u1_n (o' := 0) (by decide), h.1, nI_1]
  rintro _ rfl _ rfl
  exact kk
theorem m_lay1 {v : Int32} {n k : Nat} {post : St → Prop} (h : TpX L tp 2 σ) (hL : L < 700) (hk : k = 0 ∨ k = 8 ∨ k = 16 ∨ k = 24) (kk : wX11_puts_3 post n 0 v (nI k + (-8 : Int32)) (u1 (u1 σ 1 L (byF v k)) 0 2 (nI (L + 1)))) : wX11_puts_3 post (n + 1) 0 v (nI k) σ := by
  unfold wX11_puts_3
  simp only [Nat.zero_add]
  rw [h.1, pk_vb]
  refine ⟨fun q => absurd q (nI_pos (by omega)), fun _ => ⟨vp_in_nI hL (by decide), ?_⟩⟩
  rintro _ rfl
  rw [nI_clamp (by omega), u1_n (o' := 0) (by decide), h.1, nI_1]
  rintro _ rfl _ rfl
  exact kk
theorem c_lay {v : Int32} {post : St → Prop} (h : TpX L tp 1 σ) (hL : L + 4 ≤ 700) (k : ∀ s, TpX (L + 4) (lay4 tp L v) 1 s → (∀ j, j ≠ 1 → s.1 0 j = σ.1 0 j) → (∀ o, o ≠ 0 → o ≠ 1 → s.1 o = σ.1 o) → post s) : wX10_layOnTape 0 v σ post := by
  refine ⟨4 + 1, ?_⟩
  refine c_lay1 (k := 24) h (by omega) (by decide) ?_
  have h1 := h.put (x := byF v 24)
  refine c_lay1 (n := 3) (k := 16) h1 (by omega) (by decide) ?_
  have h2 := h1.put (x := byF v 16)
  refine c_lay1 (n := 2) (k := 8) h2 (by omega) (by decide) ?_
  have h3 := h2.put (x := byF v 8)
  refine c_lay1 (n := 1) (k := 0) h3 (by omega) (by decide) ?_
  have h4 := h3.put (x := byF v 0)
  unfold wX10_layOnTape_3
  refine ⟨fun _ => k _ h4 (fun j hj => ?_) (fun o h1 h2 => ?_), fun q => absurd (by decide) q⟩
  · rw [u1_s, pk_un hj, u1_n (by decide), u1_s, pk_un hj, u1_n (by decide), u1_s, pk_un hj, u1_n (by decide), u1_s, pk_un hj, u1_n (by decide)]
  · rw [u1_n h1, u1_n h2, u1_n h1, u1_n h2, u1_n h1, u1_n h2, u1_n h1, u1_n h2]
theorem m_put4 {v : Int32} {post : St → Prop} (h : TpX L tp 2 σ) (hL : L + 4 ≤ 700) (k : ∀ s, TpX (L + 4) (lay4 tp L v) 2 s → (∀ j, j ≠ 2 → s.1 0 j = σ.1 0 j) → (∀ o, o ≠ 0 → o ≠ 1 → s.1 o = σ.1 o) → post s) : wX11_puts 0 v σ post := by
  refine ⟨4 + 1, ?_⟩
  refine m_lay1 (k := 24) h (by omega) (by decide) ?_
  have h1 := h.put (x := byF v 24)
  refine m_lay1 (n := 3) (k := 16) h1 (by omega) (by decide) ?_
  have h2 := h1.put (x := byF v 16)
  refine m_lay1 (n := 2) (k := 8) h2 (by omega) (by decide) ?_
  have h3 := h2.put (x := byF v 8)
  refine m_lay1 (n := 1) (k := 0) h3 (by omega) (by decide) ?_
  have h4 := h3.put (x := byF v 0)
  unfold wX11_puts_3
  refine ⟨fun _ => k _ h4 (fun j hj => ?_) (fun o h1 h2 => ?_), fun q => absurd (by decide) q⟩
  · rw [u1_s, pk_un hj, u1_n (by decide), u1_s, pk_un hj, u1_n (by decide), u1_s, pk_un hj, u1_n (by decide), u1_s, pk_un hj, u1_n (by decide)]
  · rw [u1_n h1, u1_n h2, u1_n h1, u1_n h2, u1_n h1, u1_n h2, u1_n h1, u1_n h2]
theorem layF_rng {x : Int32} (hx : -128 ≤ x.toInt ∧ x.toInt < 128) (h : ∀ i, i < L → -128 ≤ (tp i).toInt ∧ (tp i).toInt < 128) : ∀ i, i < L + 1 → -128 ≤ (layF tp L x i).toInt ∧ (layF tp L x i).toInt < 128 := by
  intro i hi
  unfold layF
  by_cases e : i = L
  · rw [if_pos e]; exact hx
  · rw [if_neg e]; exact h i (by omega)
theorem lay4_rng {v : Int32} (h : ∀ i, i < L → -128 ≤ (tp i).toInt ∧ (tp i).toInt < 128) : ∀ i, i < L + 4 → -128 ≤ (lay4 tp L v i).toInt ∧ (lay4 tp L v i).toInt < 128 :=
  layF_rng (fb_byte_rng _) (layF_rng (fb_byte_rng _) (layF_rng (fb_byte_rng _) (layF_rng (fb_byte_rng _) h)))
def feedT (tp : Nat → Int32) (L : Nat) (a b c d e : Int32) : Nat → Int32 := lay4 (lay4 (lay4 (lay4 (lay4 tp L a) (L + 4) b) (L + 4 + 4) c) (L + 4 + 4 + 4) d) (L + 4 + 4 + 4 + 4) e
theorem RX.tape (hV : RV P tn bn nn lg tof tv bv L tp nw sz old ac kb kn) (h : RX t P tn bn nn lg tof tv bv L tp nw sz old ac kb kn σ) (f0 : ∀ j, j ≠ 1 → σ'.1 0 j = σ.1 0 j) (hF : ∀ o, o ≠ 0 → o ≠ 1 → σ'.1 o = σ.1 o) (g : TpX L' tp' 1 σ') : RX t P tn bn nn lg tof tv bv L' tp' nw sz old ac kb kn σ' := by
  obtain ⟨⟨v1, v2, v3, v4, v5⟩, ⟨v6, v7⟩, v8, v9, v10, v11⟩ := hV
  obtain ⟨⟨c0, c1, c2, c3, c4, c5, c6, c7⟩, h2, ⟨h3, h4⟩, h5, ⟨h6, h7, h8⟩, h9, h10⟩ := h
  refine ⟨⟨c0, by rw [f0 2 (by decide)]; exact c1, by rw [f0 3 (by decide)]; exact c2, by rw [hF t (by omega) (by omega)]; exact c3, by rw [hF t (by omega) (by omega)]; exact c4, by rw [hF t (by omega) (by omega)]; exact c5, fun j hj => ⟨by rw [hF _ (by omega) (by omega)]; exact (c6 j hj).1, fun i hi => by rw [hF _ (by omega) (by omega)]; exact (c6 j hj).2 i hi⟩, fun j hj k hk => by rw [hF _ (by omega) (by omega)]; exact c7 j hj k hk⟩, trivial, g, h5.fr v6 (fun o h1 h2 => hF o (by omega) (by omega)), ⟨by rw [hF _ (by omega) (by omega)]; exact h6, by rw [hF _ (by omega) (by omega)]; exact h7, fun k hk => (h8 k hk).fr v6 (fun o h1 h2 => hF o (by omega) (by omega))⟩, fun k hk => ⟨by rw [hF _ (by omega) (by omega)]; exact (h9 k hk).1, fun hb => ((h9 k hk).2 hb).fr v6 (fun o h1 h2 => hF o (by omega) (by omega))⟩, fun k hk => by rw [hF _ (by omega) (by omega)]; exact h10 k hk⟩
theorem RM.tape (h : RM P tn bn nn lg tof tv bv L tp nw sz ac kb kn τ) (f0 : ∀ j, j ≠ 2 → τ'.1 0 j = τ.1 0 j) (fo : ∀ o, o ≠ 0 → o ≠ 1 → τ'.1 o = τ.1 o) (g : TpX L' tp' 2 τ') : RM P tn bn nn lg tof tv bv L' tp' nw sz ac kb kn τ' := by
  obtain ⟨h1, h2, h3, h4, h5, h6, h7⟩ := h
  unfold TabM NodM at *
  unfold RM TabM NodM
  rw [fo 2 (by omega) (by omega), fo 3 (by omega) (by omega), fo 4 (by omega) (by omega), fo 5 (by omega) (by omega), fo 9 (by omega) (by omega), fo 10 (by omega) (by omega), fo 11 (by omega) (by omega), fo 12 (by omega) (by omega), fo 16 (by omega) (by omega), fo 17 (by omega) (by omega), fo 18 (by omega) (by omega), fo 19 (by omega) (by omega), f0 12 (by omega), f0 32 (by omega)]
  exact ⟨h1, h2, g, h4, h5, h6, h7⟩
theorem C_feed {a b c d e : Int32} {post : Int32 → St → Prop} (hV : RV P tn bn nn lg tof tv bv L tp nw sz old ac kb kn) (hX : RX t P tn bn nn lg tof tv bv L tp nw sz old ac kb kn σ) (k0 : ¬ L ≤ 680 → post (-1) σ) (k1 : L ≤ 680 → ∀ s, RX t P tn bn nn lg tof tv bv (L + 20) (feedT tp L a b c d e) nw sz old ac kb kn s → post (nI (L + 20)) s) : wX10_feed 0 a b c d e σ post := by
  have hL := hV.2.2.1.1
  unfold wX10_feed
  rw [hX.2.2.1.1, show (680 : Int32) = nI 680 from rfl, nI_leI (by omega) (by decide)]
  refine ⟨fun q => ?_, fun q => k0 q⟩
  refine c_lay (tp := tp) hX.2.2.1 (by omega) (fun s1 g1 f1 e1 => c_lay g1 (by omega) (fun s2 g2 f2 e2 => c_lay g2 (by omega) (fun s3 g3 f3 e3 => c_lay g3 (by omega) (fun s4 g4 f4 e4 => c_lay g4 (by omega) (fun s5 g5 f5 e5 => ?_)))))
  rw [g5.1]
  exact k1 q s5 (hX.tape hV (fun j hj => by rw [f5 j hj, f4 j hj, f3 j hj, f2 j hj, f1 j hj]) (fun o h1 h2 => by rw [e5 o h1 h2, e4 o h1 h2, e3 o h1 h2, e2 o h1 h2, e1 o h1 h2]) g5)
theorem M_feed {a b c d e : Int32} {post : Int32 → St → Prop} (hV : RV P tn bn nn lg tof tv bv L tp nw sz old ac kb kn) (hM : RM P tn bn nn lg tof tv bv L tp nw sz ac kb kn τ) (k0 : ¬ L ≤ 680 → ∀ v, FM τ v → post (-1) v) (k1 : L ≤ 680 → ∀ s, RM P tn bn nn lg tof tv bv (L + 20) (feedT tp L a b c d e) nw sz ac kb kn s → post (nI (L + 20)) s) : wX11_feed 0 a b c d e τ post := by
  have hF : FM τ (u1 τ 0 0 0) := FM.u0 (by decide)
  have hM1 := hM.fr hF
  have hL := hV.2.2.1.1
  unfold wX11_feed
  rintro _ rfl
  generalize u1 τ 0 0 0 = τ1 at *
  rw [hM1.2.2.1.1, show (20 : Int32) = nI 20 from rfl, nI_add, show (700 : Int32) = nI 700 from rfl, nI_leI (by omega) (by decide)]
  refine ⟨fun q => ?_, fun q => k0 (by omega) _ hF⟩
  refine m_put4 (tp := tp) hM1.2.2.1 (by omega) (fun s1 g1 f1 e1 => m_put4 g1 (by omega) (fun s2 g2 f2 e2 => m_put4 g2 (by omega) (fun s3 g3 f3 e3 => m_put4 g3 (by omega) (fun s4 g4 f4 e4 => m_put4 g4 (by omega) (fun s5 g5 f5 e5 => ?_)))))
  rw [g5.1]
  exact k1 (by omega) s5 (hM1.tape (fun j hj => by rw [f5 j hj, f4 j hj, f3 j hj, f2 j hj, f1 j hj]) (fun o h1 h2 => by rw [e5 o h1 h2, e4 o h1 h2, e3 o h1 h2, e2 o h1 h2, e1 o h1 h2]) g5)
theorem S_feed (hR : Rel σ τ) (a b c d e : Int32) : wX10_feed 0 a b c d e σ (fun r u => wX11_feed 0 a b c d e τ (fun r2 v => r = r2 ∧ Rel u v)) := by
  obtain ⟨t, P, tn, bn, nn, lg, tof, tv, bv, L, tp, nw, sz, old, ac, kb, kn, hV, hX, hM⟩ := id hR
  refine C_feed hV hX (fun q => M_feed hV hM (fun _ v hv => ⟨rfl, hR.fr (FX.rf σ) hv⟩) (fun q2 => absurd q2 q)) (fun q s hs => M_feed hV hM (fun q2 => absurd q q2) (fun _ v hv => ⟨rfl, t, P, tn, bn, nn, lg, tof, tv, bv, _, _, nw, sz, old, ac, kb, kn, ⟨hV.1, hV.2.1, ⟨by omega, ?_⟩, hV.2.2.2⟩, hs, hv⟩))
  exact lay4_rng (lay4_rng (lay4_rng (lay4_rng (lay4_rng hV.2.2.1.2))))
end FD
