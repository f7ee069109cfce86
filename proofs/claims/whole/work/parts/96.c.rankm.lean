/-! rank: the reference -/
theorem m_spread {v legs n : Nat} {τ : St} {post : Int32 → St → Prop} (hv : v < 2 ^ 31) (hl : legs < 2 ^ 31) (h4 : n ≤ 4) (k : post (nI (spF v legs n)) τ) : wX11_spread (nI v) (nI legs) (nI n) τ post := by
  unfold wX11_spread
  refine loop_0 (fun j i (_ : Unit) => wX11_spread_8 post j (nI v) (nI legs) (nI n) (nI (fb_ct (fun k => legs.testBit k) i)) (nI (spF v legs i)) (nI i) τ) (fun _ _ => True) n () trivial ?_ ?_
  · rintro j _ _
    unfold wX11_spread_8
    exact ⟨fun _ => k, fun q => absurd (nI_le (Nat.le_refl _) (by omega)) q⟩
  · rintro j i _ hi _ ih
    have ih := ih () trivial
    have hc : fb_ct (fun k => legs.testBit k) i ≤ i := fb_ct_le _ _
    rw [spF_succ, fb_ct_succ] at ih
    unfold wX11_spread_8
    rw [sr_b0 hl (by omega), sr_bit hv (by omega), sh_b _ (Bool.toNat_lt _) _ (by omega), or_if rfl, nI_1]
    refine ⟨fun q => absurd q (nI_ge hi (by omega)), fun _ => ⟨fun q => ?_, fun q => ?_⟩⟩
    · have q : legs.testBit i = true := by simpa using q
      rw [nI_1]
      rintro _ rfl _ rfl _ rfl
      rw [if_pos q, if_pos q] at ih
      exact ih
    · rw [nI_1]
      rintro _ rfl
      rw [if_neg (by rw [q]; decide), if_neg (by rw [q]; decide)] at ih
      exact ih
def matM (R C : Nat) (B : Nat → Nat → Int32) (τ : St) : Prop := ∀ r, r < R → ∀ c, c < C → τ.1 21 (16 * r + c) = B r c
theorem FM.r21 {τ τ' : St} (h : ∀ o, o ≠ 21 → τ'.1 o = τ.1 o) : FM τ τ' := ⟨fun j _ => by rw [h 0 (by decide)], fun o h1 h2 => h o (by omega)⟩
section RM
variable {t P tn bn nn : Nat} {lg tof : Nat → Nat} {tv bv : Nat → Nat → Int32} {L L' : Nat} {tp tp' : Nat → Int32} {nw nw' : NetT} {sz old sz' old' : Nat} {ac ac' : Nat → NetT} {kb kb' : Nat → Bool} {kn kn' : Nat → NetT} {σ τ σ' τ' : St} {nl : Nat → Nat} {w : NetT} {N j : Nat} {R C : Nat} {B : Nat → Nat → Int32}
theorem m_clears {t r c : Nat} {post : St → Prop} (hP2 : τ.1 2 0 = nI P) (h : matM R C B τ) (hR : R ≤ 16) (hC : C ≤ 16) (ht : t < r) (hr : r < R) (hc : c < C) (h0 : 0 < P) (hP : P < 2 ^ 31) (k : ∀ s, (∀ o, o ≠ 21 → s.1 o = τ.1 o) → (∀ z, z < R → z ≠ r → ∀ k, k < C → s.1 21 (16 * z + k) = B z k) → (∀ k, k < C → s.1 21 (16 * r + k) = md (B r k - B r c * B t k) P) → post s) : wX11_clears 0 (nI t) (nI r) (nI c) τ post := by
  unfold wX11_clears
  rw [show (16 : Int32) = nI 16 from rfl, pk_mul, nI_add]
  rintro _ rfl
  refine ⟨vp_in_nI (by omega) (by decide), ?_⟩
  rw [nI_clamp (by omega), show τ.1 (0 + 21) (16 * r + c) = B r c from h r hr c hc]
  rintro _ rfl
  refine loop_0 (fun y l (s : St) => wX11_clears_16 post y 0 (nI t) (nI r) (B r c) (nI l) s) (fun l s => (∀ o, o ≠ 21 → s.1 o = τ.1 o) ∧ (∀ z, z < R → z ≠ r → ∀ k, k < C → s.1 21 (16 * z + k) = B z k) ∧ (∀ k, k < C → s.1 21 (16 * r + k) = if k < l then md (B r k - B r c * B t k) P else B r k)) 16 τ ⟨fun _ _ => rfl, fun z hz _ k hk => h z hz k hk, fun k hk => by rw [if_neg (by omega)]; exact h r hr k hk⟩ ?_ ?_
  · rintro y s ⟨i1, i2, i3⟩
    unfold wX11_clears_16
    exact ⟨fun _ => k s i1 i2 (fun k hk => by rw [i3 k hk, if_pos (by omega)]), fun q => absurd (nI_le (Nat.le_refl _) (by decide)) q⟩
  · rintro y l s hl ⟨i1, i2, i3⟩ ih
    unfold wX11_clears_16 wX11_p
    rw [show s.1 (0 + 2) (0 : Int32).toNatClampNeg = nI P from by rw [i1 _ (by decide)]; exact hP2, show (16 : Int32) = nI 16 from rfl, pk_mul, nI_add, pk_mul, nI_add]
    refine ⟨fun q => absurd q (nI_ge hl (by decide)), fun _ => ?_⟩
    rintro _ rfl
    refine ⟨vp_in_nI (by omega) (by decide), ?_⟩
    rintro _ rfl
    refine ⟨vp_in_nI (by omega) (by decide), m_mod h0 hP ⟨vp_in_nI (by omega) (by decide), ?_⟩⟩
    rintro _ rfl _ rfl
    rw [nI_1, nI_clamp (by omega), nI_clamp (by omega)]
    simp only [Nat.zero_add]
    refine ih _ ⟨fun o ho => by rw [u1_n ho, i1 o ho], fun z hz hne k hk => by rw [u1_s, pk_un (by omega)]; exact i2 z hz hne k hk, fun k hk => ?_⟩
    rw [u1_s]
    by_cases e : k = l
    · subst e
      rw [pk_us, if_pos (by omega), i3 k hk, if_neg (by omega), i2 t (by omega) (by omega) k hk]
    · rw [pk_un (by omega), i3 k hk]
      by_cases f : k < l
      · rw [if_pos f, if_pos (by omega)]
      · rw [if_neg f, if_neg (by omega)]
theorem m_ranked {post : Int32 → St → Prop} (hV : TabV P tn bn lg tv bv) (hM : RM P tn bn nn lg tof tv bv L tp nw sz ac kb kn τ) (hR : R ≤ 16) (hC : C ≤ 16) : ∀ (m c rank : Nat) (B : Nat → Nat → Int32) (s : St), c + m = C → rank ≤ R → FM τ s → matM R C B s → (∀ r, r < R → ∀ c, c < C → Sm P (B r c)) → (∀ s', FM τ s' → post (nI (rkM P R m c rank B)) s') → wX11_ranked_5 post (m + 1) 0 (nI R) (nI C) (nI rank) (nI c) s := by
  have h0 := hV.p0
  have hP := hV.p31
  have h97 := hV.1.2.1
  intro m
  induction m with
  | zero =>
    intro c rank B s e hr hF h hs k
    unfold wX11_ranked_5
    exact ⟨fun _ => k s hF, fun q => absurd (nI_le (by omega) (by omega)) q⟩
  | succ m ih =>
    intro c rank B s e hr hF h hs k
    have hc : c < C := by omega
    unfold wX11_ranked_5
    rw [nI_leI (by omega) (by omega), nI_leI (by omega) (by omega)]
    rw [rkM] at k
    refine ⟨fun q => by omega, fun _ => ⟨fun q => ?_, fun q => ?_⟩⟩
    · rw [if_pos q] at k
      exact k s hF
    · rw [if_neg q] at k
      have b := pvF_le (z := nzB B c) (R - rank) rank
      have hz := pvF_z (z := nzB B c) (R - rank) rank
      generalize hp : pvF (nzB B c) (R - rank) rank = p at *
      have G : wX11_ranked_47 post (wX11_ranked_5 post (m + 1)) 0 (nI R) (nI C) (nI rank) (nI c) (nI p) s := by
        unfold wX11_ranked_47
        rw [nI_eq (by omega) (by omega)]
        refine ⟨fun q2 => ?_, fun q2 => ?_⟩
        · rw [if_neg q2] at k
          have hzp : B p c ≠ 0 := nzB_t (hz (by omega))
          have hsx : ∀ r, r < R → ∀ c, c < C → Sm P (exR B rank p r c) := fun r hr c hc => by
            unfold exR
            by_cases e1 : r = rank
            · rw [if_pos e1]; exact hs p (by omega) c hc
            · rw [if_neg e1]
              by_cases e2 : r = p
              · rw [if_pos e2]; exact hs rank (by omega) c hc
              · rw [if_neg e2]; exact hs r hr c hc
          have ezp : exR B rank p rank c = B p c := by unfold exR; rw [if_pos rfl]
          refine loop_0 (fun y l (u : St) => wX11_ranked_59 post (wX11_ranked_5 post (m + 1)) y 0 (nI R) (nI C) (nI rank) (nI c) (nI p) (nI l) u) (fun l u => (∀ o, o ≠ 21 → u.1 o = s.1 o) ∧ ∀ r, r < R → ∀ c, c < C → u.1 21 (16 * r + c) = if c < l then exR B rank p r c else B r c) 16 s ⟨fun _ _ => rfl, fun r hr c hc => by rw [if_neg (by omega)]; exact h r hr c hc⟩ ?_ ?_
          · rintro y u ⟨g1, g2⟩
            have hMu := hM.fr (hF.tr (FM.r21 g1))
            unfold wX11_ranked_59
            refine ⟨fun _ => ?_, fun q => absurd (nI_le (Nat.le_refl _) (by decide)) q⟩
            rw [show (16 : Int32) = nI 16 from rfl, pk_mul, nI_add]
            rintro _ rfl
            refine ⟨vp_in_nI (by omega) (by decide), ?_⟩
            rw [nI_clamp (by omega), show u.1 (0 + 21) (16 * rank + c) = exR B rank p rank c from by rw [show (0 + 21 : Nat) = 21 from rfl, g2 rank (by omega) c hc, if_pos (by omega)]]
            refine m_inverse h0 h97 hMu.1.1 (hsx rank (by omega) c hc) (hV.inv (hsx rank (by omega) c hc) (by rw [ezp]; exact hzp)) ?_
            refine loop_0 (fun y l (x : St) => wX11_ranked_147 post (wX11_ranked_5 post (m + 1)) y 0 (nI R) (nI C) (nI rank) (nI c) (invF (exR B rank p rank c) P) (nI l) x) (fun l x => (∀ o, o ≠ 21 → x.1 o = u.1 o) ∧ ∀ r, r < R → ∀ k, k < C → x.1 21 (16 * r + k) = if r = rank ∧ k < l then nrmM P rank c (exR B rank p) r k else exR B rank p r k) 16 u ⟨fun _ _ => rfl, fun r hr k hk => by rw [if_neg (by omega), g2 r hr k hk, if_pos (by omega)]⟩ ?_ ?_
            · rintro y x ⟨x1, x2⟩
              have hN : matM R C (nrmM P rank c (exR B rank p)) x := fun r hr k hk => by
                rw [x2 r hr k hk]
                by_cases e : r = rank
                · rw [if_pos ⟨e, by omega⟩]
                · rw [if_neg (by omega)]
                  unfold nrmM
                  rw [if_neg e]
              have hsn : ∀ r, r < R → ∀ k, k < C → Sm P (nrmM P rank c (exR B rank p) r k) := fun r hr k hk => by
                unfold nrmM
                split
                · exact md_Sm h0 hP
                · exact hsx r hr k hk
              have Fx := hF.tr ((FM.r21 g1).tr (FM.r21 x1))
              unfold wX11_ranked_147
              refine ⟨fun _ => ?_, fun q => absurd (nI_le (Nat.le_refl _) (by decide)) q⟩
              rw [nI_1]
              rintro _ rfl
              refine pk_loop (fun y i (z : St) => wX11_ranked_197 post (wX11_ranked_5 post (m + 1)) y 0 (nI R) (nI C) (nI rank) (nI c) (nI i) z) (fun i z => rank < i ∧ (∀ o, o ≠ 21 → z.1 o = x.1 o) ∧ ∀ r, r < R → ∀ k, k < C → z.1 21 (16 * r + k) = if r < i then clrM P rank c (nrmM P rank c (exR B rank p)) r k else nrmM P rank c (exR B rank p) r k) R (rank + 1) x (by omega) ⟨by omega, fun _ _ => rfl, fun r hr k hk => ?_⟩ ?_ ?_
              · rw [hN r hr k hk]
                unfold clrM
                by_cases e : r < rank + 1
                · rw [if_pos e, if_neg (by omega)]
                · rw [if_neg e]
              · rintro y z ⟨z0, z1, z2⟩
                unfold wX11_ranked_197
                refine ⟨fun _ => ?_, fun q => absurd (nI_le (Nat.le_refl _) (by omega)) q⟩
                rw [nI_1, nI_1]
                rintro _ rfl _ rfl
                refine ih (c + 1) (rank + 1) (clrM P rank c (nrmM P rank c (exR B rank p))) z (by omega) (by omega) (Fx.tr (FM.r21 z1)) (fun r hr k hk => by rw [z2 r hr k hk, if_pos hr]) (fun r hr k hk => ?_) k
                unfold clrM
                split
                · exact md_Sm h0 hP
                · exact hsn r hr k hk
              · rintro y i z hi ⟨z0, z1, z2⟩ ih3
                have Fz := Fx.tr (FM.r21 z1)
                unfold wX11_ranked_197
                refine ⟨fun q => absurd q (nI_ge hi (by omega)), fun _ => m_clears (R := R) (C := C) (B := fun r k => if r < i then clrM P rank c (nrmM P rank c (exR B rank p)) r k else nrmM P rank c (exR B rank p) r k) (hM.fr Fz).1.1 z2 hR hC z0 hi hc h0 hP (fun s' q1 q2 q3 => ?_)⟩
                rintro _ rfl
                rw [nI_1]
                refine ih3 s' ⟨by omega, fun o ho => by rw [q1 o ho, z1 o ho], fun r hr k hk => ?_⟩
                by_cases e : r = i
                · rw [e, q3 k hk, if_neg (Nat.lt_irrefl i), if_neg (Nat.lt_irrefl i), if_pos z0, if_pos (Nat.lt_succ_self i)]
                  have e2 : clrM P rank c (nrmM P rank c (exR B rank p)) rank k = nrmM P rank c (exR B rank p) rank k := by
                    unfold clrM
                    rw [if_neg (by omega)]
                  rw [e2]
                  show _ = clrM P rank c (nrmM P rank c (exR B rank p)) i k
                  unfold clrM
                  rw [if_pos z0]
                · rw [q2 r hr e k hk]
                  by_cases f : r < i
                  · rw [if_pos f, if_pos (by omega)]
                  · rw [if_neg f, if_neg (by omega)]
            · rintro y l x hl ⟨x1, x2⟩ ih3
              unfold wX11_ranked_147 wX11_p
              rw [show x.1 (0 + 2) (0 : Int32).toNatClampNeg = nI P from by rw [x1 _ (by decide)]; exact hMu.1.1, show (16 : Int32) = nI 16 from rfl, pk_mul, nI_add]
              refine ⟨fun q => absurd q (nI_ge hl (by decide)), fun _ => ?_⟩
              rintro _ rfl
              refine ⟨vp_in_nI (by omega) (by decide), nI_ne0 h0 hP, vp_in_nI (by omega) (by decide), ?_⟩
              rintro _ rfl _ rfl
              rw [nI_1, nI_clamp (by omega)]
              simp only [Nat.zero_add]
              refine ih3 _ ⟨fun o ho => by rw [u1_n ho, x1 o ho], fun r hr k hk => ?_⟩
              rw [u1_s]
              by_cases e : r = rank ∧ k = l
              · obtain ⟨e1, e2⟩ := e
                rw [e1, e2, pk_us, if_pos ⟨rfl, by omega⟩, x2 rank (by omega) l (by omega), if_neg (by omega), rem_md h0 hP (mul_nn h97 (hsx rank (by omega) l (by omega)) (invF_Sm h0 hP)).2.1]
                unfold nrmM
                rw [if_pos rfl]
              · rw [pk_un (by omega), x2 r hr k hk]
                by_cases f : r = rank ∧ k < l
                · rw [if_pos f, if_pos (by omega)]
                · rw [if_neg f, if_neg (by omega)]
          · rintro y l u hl ⟨g1, g2⟩ ih2
            unfold wX11_ranked_59
            rw [show (16 : Int32) = nI 16 from rfl, pk_mul, nI_add, pk_mul, nI_add, nI_add]
            refine ⟨fun q => absurd q (nI_ge hl (by decide)), fun _ => ?_⟩
            rintro _ rfl
            refine ⟨vp_in_nI (by omega) (by decide), ?_⟩
            rintro _ rfl _ rfl
            refine ⟨vp_in_nI (by omega) (by decide), vp_in_nI (by omega) (by decide), ?_⟩
            rintro _ rfl
            refine ⟨vp_in_nI (by omega) (by decide), ?_⟩
            rintro _ rfl _ rfl
            rw [nI_1, nI_clamp (by omega), nI_clamp (by omega)]
            simp only [Nat.zero_add]
            refine ih2 _ ⟨fun o ho => by rw [u1_n ho, u1_n ho, g1 o ho], fun r hr k hk => ?_⟩
            rw [u1_s, u1_s]
            by_cases e1 : k = l
            · subst e1
              rw [if_pos (by omega)]
              unfold exR
              by_cases f2 : r = rank
              · rw [f2, pk_us, if_pos rfl, g2 p (by omega) k hk, if_neg (by omega)]
              · rw [pk_un (by omega), if_neg f2]
                by_cases f3 : r = p
                · rw [f3, pk_us, if_pos rfl, g2 rank (by omega) k hk, if_neg (by omega)]
                · rw [pk_un (by omega), if_neg f3, g2 r hr k hk, if_neg (by omega)]
            · rw [pk_un (by omega), pk_un (by omega), g2 r hr k hk]
              by_cases f : k < l
              · rw [if_pos f, if_pos (by omega)]
              · rw [if_neg f, if_neg (by omega)]
        · rw [if_pos q2] at k
          rw [nI_1]
          rintro _ rfl
          exact ih (c + 1) rank B s (by omega) hr hF h hs k
      have hm : ∀ n at_, at_ + n = R → p = pvF (nzB B c) n at_ → wX11_ranked_19 post (wX11_ranked_5 post (m + 1)) (n + 1) 0 (nI R) (nI C) (nI rank) (nI c) (nI at_) s := by
        intro n
        induction n with
        | zero =>
          intro at_ e2 hf
          unfold wX11_ranked_19
          rw [pvF] at hf
          rw [← hf]
          exact ⟨fun _ => G, fun q => absurd (nI_le (by omega) (by omega)) q⟩
        | succ n ih2 =>
          intro at_ e2 hf
          rw [pvF] at hf
          unfold wX11_ranked_19
          rw [show (16 : Int32) = nI 16 from rfl, pk_mul, nI_add]
          refine ⟨fun q => absurd q (nI_ge (by omega) (by omega)), fun _ => ?_⟩
          rintro _ rfl
          refine ⟨vp_in_nI (by omega) (by decide), ?_⟩
          rw [nI_clamp (by omega), show s.1 (0 + 21) (16 * at_ + c) = B at_ c from h at_ (by omega) c hc]
          refine ⟨fun q2 => ?_, fun q2 => ?_⟩
          · rw [if_pos (by unfold nzB; simp [q2])] at hf
            rw [← hf]
            exact G
          · rw [nI_1]
            rintro _ rfl
            refine ih2 (at_ + 1) (by omega) ?_
            rw [hf, if_neg (by unfold nzB; rw [q2]; decide)]
      exact ⟨R - rank + 1, hm (R - rank) rank (by omega) hp.symm⟩
def rankA (P tn : Nat) (lg : Nat → Nat) (f : Nat → Nat → Nat → Int32) (a b : Int32) : Int32 := if ixB a tn && ixB b (2 ^ lg a.toNatClampNeg) then f a.toNatClampNeg (lg a.toNatClampNeg) b.toNatClampNeg else -1
theorem C_rank {a b : Int32} {post : Int32 → St → Prop} (hV : TabV P tn bn lg tv bv) (hT : TabX t P tn bn lg tv bv σ) (k : ∀ u, FX σ u → post (rankA P tn lg (fun j n l => nI (rkC P (2 ^ bc l) (2 ^ bc (2 ^ n - 1 - l)) 0 0 (m0F (tv j) n l))) a b) u) : wX10_rank 0 a b σ post := by
  unfold wX10_rank
  simp only [Nat.zero_add]
  unfold rankA at k
  refine c_isTable hT hV.t8 ⟨fun q => ?_, fun q => ?_⟩
  · rw [if_neg (by rw [q]; simp)] at k; exact k _ (FX.rf σ)
  · refine c_tab hV hT q (fun j hj e1 e2 h4 i1 i2 => ?_)
    have h16 := p2le h4
    have h8 := hV.t8
    have ht : t = 2 ∨ t = 44 := hT.1
    rw [e2] at k
    rintro _ rfl
    rw [hT.p, e2]
    refine ⟨kX_t hT.1, i1, s_hasIndex (hT.leg hj) h4 ⟨fun q2 => ?_, fun q2 => ?_⟩⟩
    · rw [if_pos (by rw [q, q2]; rfl)] at k
      obtain ⟨l, hl, rfl⟩ := ixB_t (by omega) q2
      rw [nI_clamp (by omega)] at k
      rintro _ rfl
      rw [hT.p]
      refine ⟨kX_t hT.1, i1, ?_⟩
      refine c_fill (hT.leg hj) h4 (hT.val hj) (by omega) hl (fun s f1 h1 => ?_)
      have hT2 := hT.fr (σ' := s) h8 hV.b5 (fun o ho => f1 o (by omega) (by omega))
      rintro _ rfl
      rw [hT2.p, hT2.pr]
      have hRC := rc_16 _ h4 l hl
      have hR := p2le (bc_le l)
      have hC := p2le (bc_le (2 ^ lg j - 1 - l))
      refine ⟨kX_t hT.1, ⟨2 ^ bc (2 ^ lg j - 1 - l) + 1, c_ranked (by omega) hC hR hV.p0 hV.p31 (2 ^ bc (2 ^ lg j - 1 - l)) 0 0 _ s (Nat.zero_add _) (Nat.zero_le _) h1 (fun s' f => k s' (fun o ho => by rw [f o (by omega), f1 o (by omega) (by omega)]))⟩⟩
    · rw [if_neg (by rw [q2]; simp)] at k; exact k _ (FX.rf σ)
theorem M_rank {a b : Int32} {post : Int32 → St → Prop} (hV : TabV P tn bn lg tv bv) (hM : RM P tn bn nn lg tof tv bv L tp nw sz ac kb kn τ) (k : ∀ v, FM τ v → post (rankA P tn lg (fun j n l => nI (rkM P (2 ^ bc l) (2 ^ bc (2 ^ n - 1 - l)) 0 0 (m0F (tv j) n l))) a b) v) : wX11_rank 0 a b τ post := by
  have hF : FM τ (u1 τ 0 0 0) := FM.u0 (by decide)
  have hM1 := hM.fr hF
  have h8 := hV.t8
  unfold wX11_rank
  unfold rankA at k
  rintro _ rfl
  generalize u1 τ 0 0 0 = τ1 at *
  refine m_isTable hM1.1 hV.t8 ⟨fun q => ?_, fun q => ?_⟩
  · rw [if_neg (by rw [q]; simp)] at k; exact k _ hF
  · refine m_tab hV q (fun j hj e1 e2 h4 i2 => ?_)
    subst e1
    have h16 := p2le h4
    rw [e2] at k
    simp only [Nat.zero_add]
    rw [e2, hM1.1.leg hj, sh1 _ (by omega)]
    refine ⟨i2, m_within (pred_toInt (by omega)) ⟨fun q2 => ⟨i2, ?_⟩, fun q2 => ?_⟩⟩
    · rw [if_pos (by rw [q, q2]; rfl)] at k
      obtain ⟨l, hl, rfl⟩ := ixB_t (by omega) q2
      rw [nI_clamp (by omega)] at k
      obtain ⟨bs1, bs2⟩ := bc_sub _ h4 l hl
      dsimp only at k
      rw [bs1] at k
      rintro _ rfl
      refine m_bits (by omega) ?_
      rw [sh1 _ (by have := bc_le l; omega)]
      rintro _ rfl
      refine m_bits (by omega) ?_
      rw [hM1.1.leg hj, pk_sub bs2, sh1 _ (by omega)]
      rintro _ rfl
      have hR := p2le (bc_le l)
      have hC := p2le (show lg j - bc l ≤ 4 by omega)
      generalize 2 ^ bc l = R at *
      generalize 2 ^ (lg j - bc l) = C at *
      refine loop_0 (fun y i (s : St) => wX11_rank_63 post y 0 (nI j) (nI l) (nI (lg j)) (nI R) (nI C) (nI i) s) (fun i s => ∀ o, o ≠ 21 → s.1 o = τ1.1 o) 256 τ1 (fun _ _ => rfl) ?_ ?_
      · intro y s i1
        unfold wX11_rank_63
        refine ⟨fun _ => ?_, fun q => absurd (nI_le (Nat.le_refl _) (by decide)) q⟩
        refine loop_0 (fun y i (s : St) => wX11_rank_88 post y 0 (nI j) (nI l) (nI (lg j)) (nI R) (nI C) (nI i) s) (fun i s => (∀ o, o ≠ 21 → s.1 o = τ1.1 o) ∧ ∀ r, r < i → ∀ c, c < C → s.1 21 (16 * r + c) = m0F (tv j) (lg j) l r c) R s ⟨i1, fun r hr => by omega⟩ ?_ ?_
        · rintro y s ⟨g1, g2⟩
          unfold wX11_rank_88
          refine ⟨fun _ => ?_, fun q => absurd (nI_le (Nat.le_refl _) (by omega)) q⟩
          refine ⟨C + 1, m_ranked hV hM hR hC C 0 0 _ s (by omega) (by omega) (hF.tr (FM.r21 g1)) g2 (fun r hr c hc => ?_) (fun s' f => k s' f)⟩
          exact (hV.2.2.2.1 j hj).2.2 _ (Nat.or_lt_two_pow spF_lt spF_lt)
        · rintro y i s hi ⟨g1, g2⟩ ih
          unfold wX11_rank_88
          refine ⟨fun q => absurd q (nI_ge hi (by omega)), fun _ => ?_⟩
          refine loop_0 (fun y x (s : St) => wX11_rank_98 post (wX11_rank_88 post _) y 0 (nI j) (nI l) (nI (lg j)) (nI R) (nI C) (nI i) (nI x) s) (fun x s => (∀ o, o ≠ 21 → s.1 o = τ1.1 o) ∧ (∀ r, r < i → ∀ c, c < C → s.1 21 (16 * r + c) = m0F (tv j) (lg j) l r c) ∧ ∀ c, c < x → s.1 21 (16 * i + c) = m0F (tv j) (lg j) l i c) C s ⟨g1, g2, fun c hc => by omega⟩ ?_ ?_
          · rintro y s ⟨x1, x2, x3⟩
            unfold wX11_rank_98
            refine ⟨fun _ => ?_, fun q => absurd (nI_le (Nat.le_refl _) (by omega)) q⟩
            rw [nI_1]
            rintro _ rfl
            refine ih s ⟨x1, fun r hr c hc => ?_⟩
            by_cases e : r = i
            · rw [e]; exact x3 c hc
            · exact x2 r (by omega) c hc
          · rintro y x s hx ⟨x1, x2, x3⟩ ih2
            have hor : spF i l (lg j) ||| spF x (2 ^ lg j - 1 - l) (lg j) < 2 ^ lg j := Nat.or_lt_two_pow spF_lt spF_lt
            unfold wX11_rank_98
            rw [sh1 _ (by omega), cl_nI _ h4 l hl]
            refine ⟨fun q => absurd q (nI_ge hx (by omega)), fun _ => m_spread (by omega) (by omega) h4 (m_spread (by omega) (by omega) h4 ?_)⟩
            rw [fa_or, show (16 : Int32) = nI 16 from rfl, pk_mul, nI_add, pk_mul, nI_add]
            rintro _ rfl
            refine ⟨vp_in_nI (by omega) (by decide), vp_in_nI (by omega) (by decide), ?_⟩
            rintro _ rfl _ rfl
            rw [nI_1, nI_clamp (by omega), nI_clamp (by omega)]
            simp only [Nat.zero_add]
            rw [x1 10 (by decide), hM1.1.val hj _ hor]
            refine ih2 _ ⟨fun o ho => by rw [u1_n ho, x1 o ho], fun r hr c hc => by rw [u1_s, pk_un (by omega)]; exact x2 r hr c hc, fun c hc => ?_⟩
            rw [u1_s]
            by_cases e : c = x
            · subst e; rw [pk_us]; rfl
            · rw [pk_un (by omega)]; exact x3 c (by omega)
      · intro y i s hi i1 ih
        unfold wX11_rank_63
        refine ⟨fun q => absurd q (nI_ge hi (by decide)), fun _ => ⟨vp_in_nI (by omega) (by decide), ?_⟩⟩
        rintro _ rfl _ rfl
        rw [nI_1]
        exact ih _ (fun o ho => by rw [u1_n ho, i1 o ho])
    · rw [if_neg (by rw [q2]; simp)] at k; exact k _ hF
theorem S_rank (hR : Rel σ τ) (a b : Int32) : wX10_rank 0 a b σ (fun r u => wX11_rank 0 a b τ (fun r2 v => r = r2 ∧ Rel u v)) := by
  obtain ⟨t, P, tn, bn, nn, lg, tof, tv, bv, L, tp, nw, sz, old, ac, kb, kn, hV, hX, hM⟩ := id hR
  have h97 := hV.1.1.2.1
  have h3 := hV.1.1.1
  refine C_rank hV.1 hX.1 (fun u hu => M_rank hV.1 hM (fun v hv => ⟨?_, hR.fr hu hv⟩))
  unfold rankA
  by_cases c : (ixB a tn && ixB b (2 ^ lg a.toNatClampNeg)) = true
  · rw [if_pos c, if_pos c]
    simp only [Bool.and_eq_true] at c
    have h8 := hV.1.t8
    obtain ⟨j, hj, e⟩ := ixB_t (by omega) c.1
    have hc : a.toNatClampNeg = j := by rw [e]; exact nI_clamp (by omega)
    rw [hc]
    dsimp only
    congr 1
    refine rk_eq h97 (by omega) hV.1.1.2.2 (fun d hd hz => hV.1.inv hd hz) _ _ _ _ _ (Nat.zero_add _) ⟨fun r hr c hc => ?_, fun _ => 1, fun r hr => ?_, fun r hr c hc => by rw [Int.one_mul]⟩
    · have := (hV.1.2.2.2.1 j hj).2.2 (spF r b.toNatClampNeg (lg j) ||| spF c (2 ^ lg j - 1 - b.toNatClampNeg) (lg j)) (Nat.or_lt_two_pow spF_lt spF_lt)
      exact ⟨this, this⟩
    · show (1 : Int) % (P : Int) ≠ 0
      rw [Int.emod_eq_of_lt (by omega) (by omega)]
      decide
  · rw [if_neg c, if_neg c]
end RM
