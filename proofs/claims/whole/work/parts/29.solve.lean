/-! what an end works out -/
def YS (σ : Sg) (dn : Nat → Bool) (k : Nat) (f : Nat → Nat) (N : zM) : Prop := ∃ pv u la, YR (sH σ) k (fun i => vV σ dn (f i)) pv u la N ∧ ∀ i, i < k → N.1 37 i = nI (f i)
theorem YS.K {σ : Sg} {dn : Nat → Bool} {k : Nat} {f : Nat → Nat} {N N' : zM} (S : YS σ dn k f N) (h : K38 N N') : YS σ dn k f N' := by
  obtain ⟨pv, u, la, S1, S2⟩ := S
  exact ⟨pv, u, la, S1.K h, fun i hi => by rw [h.1 37 (by decide)]; exact S2 i hi⟩
theorem ofs4' (b : Nat) : (4 : Int32) + nI b = nI (4 + b) := nI_add 4 b
theorem sX6_study {σ : Sg} {N : zM} (W : Wf σ) (Y : RM σ N) {dn : Nat → Bool} (hvec : ∀ l, l < sL σ → ∀ p, p < 4 → N.1 33 (4 * l + p) = nI (vV σ dn l p)) {r : Nat} (hr : r < 12) {post : zM → Prop}
    (h : ∀ N', KT N N' → YS σ dn (frK σ dn r) (frF σ dn r) N' → post N') : pX6_study N (nI r) post := by
  have hL := W.2.1
  have hH := W.2.2.1
  have hR := W.1
  unfold pX6_study pX6_study_L7
  refine ⟨fun n x1 x2 N1 => ∃ l, l ≤ sL σ ∧ n = sL σ - l ∧ x1 = nI r ∧ x2 = nI l ∧ KT N N1 ∧ YS σ dn (fr σ dn r (cnt σ r l)).1 (fr σ dn r (cnt σ r l)).2 N1, ⟨sL σ, 0, by omega, rfl, rfl, rfl, KT.f, fun _ => false, fun _ _ => 0, fun _ => 0, ⟨EX_0 _ (fun i => vV_nb W dn _), fun j hj => ?_, fun i j _ hj => ?_, fun p _ hp => (by cases hp), fun j c hj => ?_, ?_⟩, fun i hi => ?_⟩, ?_⟩
  · have : j < 0 := hj
    omega
  · have : j < 0 := hj
    omega
  · have : j < 0 := hj
    omega
  · show upd (N.1 21) 22 0 22 = _
    rw [pk_us]; rfl
  · have : i < 0 := hi
    omega
  · rintro n x1 x2 N1 ⟨l, hl, hn, rfl, rfl, hK, S⟩
    have Y1 := Y.K hK.m
    unfold pX6_study_b7 pX6_study_b101
    rw [Y1.1.2.1]
    refine lp (by omega) hl (fun e => ?_) (fun hl2 => ?_)
    · subst e; exact h N1 hK S
    · have hT := W.2.2.2.1 l hl2
      rw [nI_clamp (n := l) (by omega), (Y1.2.2.2.1 l hl2).2]
      refine ⟨vp_in_nI (by omega) (by decide), nI_eI (by omega) (by omega) (fun e => ?_) (fun e => ⟨sL σ - (l + 1), by omega, l + 1, by omega, rfl, rfl, nI_1 l, hK, ?_⟩)⟩
      · have hin : isIn σ r (cnt σ r l) l := ⟨hl2, e, rfl⟩
        have hlin := lin_eq hin
        have hc1 : cnt σ r (l + 1) = cnt σ r l + 1 := by rw [cnt_succ, if_pos e]
        generalize hkd : (fr σ dn r (cnt σ r l)).1 = k at S
        have hk4 : k ≤ sH σ := by obtain ⟨_, _, _, S1, _⟩ := S; exact EL_k S1.1.1
        unfold pX6_study_L30
        refine ⟨fun m x1 x2 x3 N2 => ∃ c, c ≤ 9 ∧ m = 9 - c ∧ x1 = nI r ∧ x2 = nI l ∧ x3 = nI c ∧ K38 N1 N2 ∧ ∀ c', c' < c → N2.1 38 c' = nI (if c' < sH σ then vV σ dn l c' else 0), ⟨9, 0, by omega, rfl, rfl, rfl, rfl, K38.rf, fun c hc => by omega⟩, ?_⟩
        rintro m x1 x2 x3 N2 ⟨c, hc, hm, rfl, rfl, rfl, hK2, hv2⟩
        have Y2 := Y1.K hK2.t.m
        have S2 := S.K hK2
        unfold pX6_study_b30 pX6_study_b63
        refine lp (n := 9) (by omega) hc (fun e => ?_) (fun hc2 => ?_)
        · subst e
          obtain ⟨pv, u, la, S3, S4⟩ := S2
          have h22 : N2.1 21 22 = nI k := S3.2.2.2.2.2
          rw [h22, ofs4', nI_clamp (n := 4 + k) (by omega)]
          refine ⟨vp_in_nI (by omega) (by decide), ?_⟩
          have hrow : ∀ c', c' < 9 → (zsi N2 38 (4 + k) 1).1 38 c' = nI (vX σ dn l k c') := fun c' hc' => by
            show upd (N2.1 38) (4 + k) 1 c' = _
            unfold vX
            by_cases e : c' = 4 + k
            · rw [e, pk_us, if_neg (by omega), if_pos rfl]; rfl
            · rw [pk_un e, hv2 c' hc']
              by_cases e4 : c' < 4
              · rw [if_pos e4]
                by_cases e5 : c' < sH σ
                · rw [if_pos e5]
                · rw [if_neg e5, vV_zero W dn (by omega)]
              · rw [if_neg e4, if_neg e, if_neg (by omega)]
          refine sX6_steps (N := zsi N2 38 (4 + k) 1) (by omega) Y2.1.2.2 (S3.K K38.si) (vX_nb W dn l k) hrow (fun hz N3 hK3 => ?_) (fun t ht hnz N3 hK3 k37 h22' h36 h35 => ?_)
          · refine eq00 ⟨sL σ - (l + 1), by omega, l + 1, by omega, rfl, rfl, nI_1 l, hK.tr (hK2.tr (K38.si.tr hK3)).t, ?_⟩
            rw [hc1, fr_in]
            · rw [hkd]; exact S.K (hK2.tr (K38.si.tr hK3))
            · rw [hkd, hlin]; exact (EX_in W S3.1 k).mp hz
          · have E' := EX_new W S3.1 ht hnz
            have hk1 := EL_k E'.1
            have hpt : pv t = false := by
              cases hq : pv t with
              | false => rfl
              | true => exact absurd (EL_piv S3.1.1 (vX_nb W dn l k) ht hq) hnz
            refine ne10 ⟨?_, sL σ - (l + 1), by omega, l + 1, by omega, rfl, rfl, nI_1 l, hK.tr ((hK2.tr K38.si).t.tr (hK3.tr (KT.si (by decide)))), ?_⟩
            · rw [h22', show nI (k + 1) - 1 = nI k from pk_sub (a := k + 1) (b := 1) (by omega)]; exact vp_in_nI (by omega) (by decide)
            · rw [hc1, fr_out (by rw [hkd, hlin]; exact fun q => hnz ((EX_in W S3.1 k).mpr q t ht))]
              rw [h22', show nI (k + 1) - 1 = nI k from pk_sub (a := k + 1) (b := 1) (by omega), nI_clamp (n := k) (by omega), hkd, hlin]
              refine ⟨_, _, fun j => if j = k then t else la j, ⟨E', fun j hj => ⟨?_, ?_, h36 j hj⟩, fun i j hij hj => ?_, fun p hp hpp => ?_, fun j c hj hc => h35 j c hj hc, h22'⟩, fun i hi => ?_⟩
              · show (if j = k then t else la j) < _
                split
                · exact ht
                · have hj' : j < k + 1 := hj
                  exact (S3.2.1 j (by omega)).1
              · show (if (if j = k then t else la j) = t then true else pv (if j = k then t else la j)) = true
                by_cases e : j = k
                · rw [if_pos e, if_pos rfl]
                · have hj' : j < k + 1 := hj
                  rw [if_neg e, (S3.2.1 j (by omega)).2.1]; split <;> rfl
              · have hj' : j < k + 1 := hj
                show (if i = k then t else la i) ≠ (if j = k then t else la j)
                rw [if_neg (by omega)]
                by_cases e : j = k
                · rw [if_pos e]; intro q; have := (S3.2.1 i (by omega)).2.1; rw [q, hpt] at this; cases this
                · rw [if_neg e]; exact S3.2.2.1 i j hij (by omega)
              · by_cases e : p = t
                · exact ⟨k, Nat.lt_succ_self k, by show (if k = k then t else la k) = p; rw [if_pos rfl, e]⟩
                · have hpp' : (if p = t then true else pv p) = true := hpp
                  rw [if_neg e] at hpp'
                  obtain ⟨j, hj, e2⟩ := S3.2.2.2.1 p hp hpp'
                  exact ⟨j, Nat.lt_succ_of_lt hj, by show (if j = k then t else la j) = p; rw [if_neg (by omega), e2]⟩
              · show upd (N3.1 37) k (nI l) i = nI (if i = k then l else (fr σ dn r (cnt σ r l)).2 i)
                have hi' : i < k + 1 := hi
                by_cases e : i = k
                · rw [e, pk_us, if_pos rfl]
                · rw [pk_un e, if_neg e, k37]; exact S4 i (by omega)
        · rw [Y2.1.2.2]
          have hle : (nI (sH σ) ≤ nI c) ↔ sH σ ≤ c := nI_leI (by omega) (by omega)
          have fin : ∀ x : Nat, x = (if c < sH σ then vV σ dn l c else 0) → ∃ k_1, k_1 < m ∧ ∃ c_1, c_1 ≤ 9 ∧ k_1 = 9 - c_1 ∧ nI r = nI r ∧ nI l = nI l ∧ nI c + 1 = nI c_1 ∧ K38 N1 (zsi N2 38 c (nI x)) ∧ ∀ c', c' < c_1 → (zsi N2 38 c (nI x)).1 38 c' = nI (if c' < sH σ then vV σ dn l c' else 0) := by
            intro x hx
            refine ⟨9 - (c + 1), by omega, c + 1, by omega, rfl, rfl, rfl, nI_1 c, hK2.tr K38.si, fun c' hc' => ?_⟩
            show upd (N2.1 38) c _ c' = _
            by_cases e : c' = c
            · rw [e, pk_us, hx]
            · rw [pk_un e]; exact hv2 c' (by omega)
          rw [nI_clamp (n := c) (by omega)]
          refine ⟨fun q => ⟨vp_in_nI (by omega) (by decide), fin 0 (if_neg (by have := hle.mp q; omega)).symm⟩, fun q => ?_⟩
          have hch : c < sH σ := by
            rcases Nat.lt_or_ge c (sH σ) with z | z
            · exact z
            · exact absurd (hle.mpr z) q
          rw [ofs4, nI_clamp (n := 4 * l + c) (by omega)]
          have hval : N2.1 33 (4 * l + c) = nI (vV σ dn l c) := by
            rw [hK2.1 33 (by decide), hK.1 33 (by decide) (by decide) (by decide) (by decide) (by decide)]
            exact hvec l hl2 c (by omega)
          rw [hval]
          exact ⟨vp_in_nI (by omega) (by decide), vp_in_nI (by omega) (by decide), fin _ (if_pos hch).symm⟩
      · rw [show cnt σ r (l + 1) = cnt σ r l by rw [cnt_succ, if_neg e]; rfl]
        exact S
theorem sX6_solvesFor {h k : Nat} {V : Nat → Nat → Nat} {pv : Nat → Bool} {u : Nat → Nat → Nat} {la : Nat → Nat} {N : zM} (h4 : h ≤ 4) (hH : N.1 21 3 = nI h) (S : YR h k V pv u la N) {p : Nat} (hp : p < h) {post : Int32 → zM → Prop}
    (ht : inSp h k V (eP p) → ∀ N', K38 N N' → (∀ i, i < k → N'.1 38 (4 + i) = nI (u p (4 + i))) → post 1 N') (hf : ¬ inSp h k V (eP p) → ∀ N', K38 N N' → post 0 N') : pX6_solvesFor N (nI p) post := by
  have hkh := EL_k S.1.1
  unfold pX6_solvesFor pX6_solvesFor_L2
  refine ⟨fun n x1 x2 N1 => ∃ c, c ≤ 9 ∧ n = 9 - c ∧ x1 = nI p ∧ x2 = nI c ∧ K38 N N1 ∧ ∀ c', c' < c → N1.1 38 c' = nI (eP p c'), ⟨9, 0, by omega, rfl, rfl, rfl, K38.rf, fun c hc => by omega⟩, ?_⟩
  rintro n x1 x2 N1 ⟨c, hc, hn, rfl, rfl, hK, hv⟩
  unfold pX6_solvesFor_b2 pX6_solvesFor_b23
  refine lp (n := 9) (by omega) hc (fun e => ?_) (fun hc2 => ?_)
  · subst e
    refine sX6_reduce h4 (S.K hK) (eP_nb p) hv (fun N2 hK2 hw => ?_)
    have hH2 : N2.1 21 3 = nI h := by rw [hK2.1 21 (by decide), hK.1 21 (by decide)]; exact hH
    have bw : nb (rsd h u (eP p)) := rsd_nb (eP_nb p)
    unfold pX6_solvesFor_L36
    refine ⟨fun n x2 N3 => ∃ c, c ≤ h ∧ n = h - c ∧ x2 = nI c ∧ N3 = N2 ∧ ∀ c', c' < c → rsd h u (eP p) c' = 0, ⟨h, 0, by omega, rfl, rfl, rfl, fun c hc => by omega⟩, ?_⟩
    rintro n x2 N3 ⟨c, hc, hn, rfl, rfl, hz⟩
    unfold pX6_solvesFor_b36
    rw [hH2]
    refine lp (by omega) hc (fun e => ⟨Or.inr rfl, ht ?_ N3 (hK.tr hK2) (fun i hi => ?_)⟩) (fun hc2 => ?_)
    · subst e; exact (EL_in S.1.1 (eP_nb p)).mp hz
    · rw [hw (4 + i) (by omega), rsd_e S.1.1.1.1 hp]
      unfold eP
      rw [if_neg (by omega), Nat.zero_xor]
    · have blt := bw c
      rw [nI_clamp (n := c) (by omega), hw c (by omega)]
      refine ⟨vp_in_nI (by omega) (by decide), nI_e0 (by omega) (fun e => ⟨h - (c + 1), by omega, c + 1, by omega, rfl, nI_1 c, rfl, fun c' hc' => ?_⟩) (fun e => ⟨Or.inl rfl, hf (fun q => e ((EL_in S.1.1 (eP_nb p)).mpr q c hc2)) N3 (hK.tr hK2)⟩)⟩
      rcases (show c' < c ∨ c' = c by omega) with z | z
      · exact hz c' z
      · rw [z]; exact e
  · have fin : ∀ x : Nat, x = eP p c → vp_in (nI c) 9 ∧ ∃ k, k < n ∧ ∃ c_1, c_1 ≤ 9 ∧ k = 9 - c_1 ∧ nI p = nI p ∧ nI c + 1 = nI c_1 ∧ K38 N (zsi N1 38 (nI c).toNatClampNeg (nI x)) ∧ ∀ c', c' < c_1 → (zsi N1 38 (nI c).toNatClampNeg (nI x)).1 38 c' = nI (eP p c') := by
      intro x hx
      rw [nI_clamp (n := c) (by omega)]
      refine ⟨vp_in_nI (by omega) (by decide), 9 - (c + 1), by omega, c + 1, by omega, rfl, rfl, nI_1 c, hK.tr K38.si, fun c' hc' => ?_⟩
      show upd (N1.1 38) c _ c' = _
      by_cases e : c' = c
      · rw [e, pk_us, hx]
      · rw [pk_un e]; exact hv c' (by omega)
    have e3 : (nI c = nI p) ↔ c = p := nI_eq (by omega) (by omega)
    exact ⟨fun q => fin 0 (by unfold eP; rw [if_neg (fun z => q (e3.mpr z))]), fun q => fin 1 (by unfold eP; rw [if_pos (e3.mp q)])⟩
theorem sX6_getsOf {σ : Sg} (W : Wf σ) {dn : Nat → Bool} {k : Nat} {f : Nat → Nat} {pv : Nat → Bool} {u : Nat → Nat → Nat} {la : Nat → Nat} {N : zM} (hH : N.1 21 3 = nI (sH σ)) (S : YR (sH σ) k (fun i => vV σ dn (f i)) pv u la N) (hf37 : ∀ i, i < k → N.1 37 i = nI (f i)) (hfl : ∀ i, i < k → f i < sL σ) {p : Nat} (hp : p < sH σ) {post : Int64 → zM → Prop}
    (ht : inSp (sH σ) k (fun i => vV σ dn (f i)) (eP p) → ∀ N' y, K38 N N' → (∀ j, j < 8 → lb y j = gs (fun i => gm (u p (4 + i)) (lb (N.2 34 (f i)) j)) k) → post y N') (hf : ¬ inSp (sH σ) k (fun i => vV σ dn (f i)) (eP p) → ∀ N', K38 N N' → post 0 N') : pX6_getsOf N (nI p) post := by
  have hkh := EL_k S.1.1
  have hHb := W.2.2.1
  have hL := W.2.1
  unfold pX6_getsOf
  refine sX6_solvesFor (by omega) hH S hp (fun hin N1 hK hrow => ne01 ?_) (fun hout N1 hK => eq00' (hf hout N1 hK))
  unfold pX6_getsOf_L15
  refine ⟨fun n x2 x4 N2 => ∃ i, i ≤ k ∧ n = k - i ∧ x4 = nI i ∧ N2 = N1 ∧ ∀ j, j < 8 → lb x2 j = gs (fun i => gm (u p (4 + i)) (lb (N.2 34 (f i)) j)) i, ⟨k, 0, by omega, rfl, rfl, rfl, fun j _ => lb_0 j⟩, ?_⟩
  rintro n x2 x4 N2 ⟨i, hi, hn, rfl, rfl, hv⟩
  unfold pX6_getsOf_b15
  have h22 : N2.1 21 22 = nI k := by rw [hK.1 21 (by decide)]; exact S.2.2.2.2.2
  rw [h22]
  refine lp (by omega) hi (fun e => by subst e; exact ht hin N2 x2 hK hv) (fun hi2 => ?_)
  have hfi := hfl i hi2
  have h37 : N2.1 37 i = nI (f i) := by rw [hK.1 37 (by decide)]; exact hf37 i hi2
  rw [ofs4', nI_clamp (n := 4 + i) (by omega), nI_clamp (n := i) (by omega), h37, nI_clamp (n := f i) (by omega), hrow i hi2, hK.2]
  refine ⟨vp_in_nI (by omega) (by decide), vp_in_nI (by omega) (by decide), vp_in_nI (by omega) (by decide), sX6_product_ (S.1.1.1.1 p _) (fun y hy => ⟨k - (i + 1), by omega, i + 1, by omega, rfl, nI_1 i, rfl, fun j hj => ?_⟩)⟩
  rw [lb_xor, hv j hj, hy j hj, gs_succ]
/-! the class -/
theorem lb_low : ∀ q, q < 8 → lb (4294967295 : Int64) q = if q < 4 then 2 ^ 8 - 1 else 0 := by decide +kernel
theorem sX3_worksOut {σ : Sg} (W : Wf σ) {dn : Nat → Bool} {k : Nat} {f : Nat → Nat} {pv : Nat → Bool} {u : Nat → Nat → Nat} {M : zM} (E : EX (sH σ) k (fun i => vV σ dn (f i)) pv u) (hrow : ∀ p q, p < sH σ → q < 8 → lb (M.2 17 p) q = u p q) {p : Nat} (hp : p < sH σ) {post : Int32 → Prop}
    (ht : inSp (sH σ) k (fun i => vV σ dn (f i)) (eP p) → post 1) (hf : ¬ inSp (sH σ) k (fun i => vV σ dn (f i)) (eP p) → post 0) : pX3_worksOut M (nI p) post := by
  have hH := W.2.2.1
  unfold pX3_worksOut pX3_worksOut_b24
  rw [nI_clamp (n := p) (by omega)]
  have hlb : ∀ q, q < 8 → lb (M.2 17 p &&& 4294967295) q = if q < 4 then u p q else 0 := fun q hq => by
    rw [lb_and, lb_low q hq, hrow p q hp hq]
    by_cases e : q < 4
    · rw [if_pos e, if_pos e, Nat.and_two_pow_sub_one_eq_mod, Nat.mod_eq_of_lt (E.1.1.1 p q)]
    · rw [if_neg e, if_neg e, Nat.and_zero]
  have key : (M.2 17 p &&& 4294967295 = zU p) ↔ inSp (sH σ) k (fun i => vV σ dn (f i)) (eP p) := by
    rw [EL_e E.1 hp]
    refine ⟨fun e q hq => ?_, fun hz => lb_ext (fun q hq => ?_)⟩
    · have := hlb q (by omega)
      rw [e, zU_lb p (by omega) q (by omega), if_pos (by omega)] at this
      rw [← this]
      unfold bsV eP
      by_cases z : p = q
      · rw [if_pos z, if_pos z.symm]
      · rw [if_neg z, if_neg (fun y => z y.symm)]
    · rw [hlb q hq, zU_lb p (by omega) q hq]
      have hb : bsV p q = eP p q := by
        unfold bsV eP
        by_cases z : p = q
        · rw [if_pos z, if_pos z.symm]
        · rw [if_neg z, if_neg (fun y => z y.symm)]
      rw [hb]
      by_cases e4 : q < 4
      · rw [if_pos e4]
        rcases Nat.lt_or_ge q (sH σ) with z | z
        · exact hz q z
        · rw [E.2 p q hp z e4]; unfold eP; rw [if_neg (by omega)]
      · rw [if_neg e4]; unfold eP; rw [if_neg (by omega)]
  rw [lg_cmp_eq, key]
  exact ⟨vp_in_nI (by omega) (by decide), vp_in_nI (by omega) (by decide), fun q => ⟨Or.inl rfl, hf q⟩, fun q => ⟨Or.inr rfl, ht q⟩⟩
theorem sX3_keyNumber {σ : Sg} (W : Wf σ) {u : Nat → Nat → Nat} {M : zM} (hrow : ∀ p q, p < sH σ → q < 8 → lb (M.2 17 p) q = u p q) {p i : Nat} (hp : p < sH σ) (hi : i < 4) {post : Int32 → Prop} (h : post (nI (u p (4 + i)))) : pX3_keyNumber M (nI p) (nI i) post := by
  have hH := W.2.2.1
  unfold pX3_keyNumber
  rw [nI_clamp (n := p) (by omega), ofs4']
  refine ⟨vp_in_nI (by omega) (by decide), sX5_byteOf (by omega) ?_⟩
  rw [hrow p (4 + i) hp (by omega)]
  exact h
theorem sX3_bytesFor {σ : Sg} (W : Wf σ) {k : Nat} {f : Nat → Nat} {u : Nat → Nat → Nat} {M : zM} (bu : ∀ p, nb (u p)) (hk : k ≤ sH σ) (hrow : ∀ p q, p < sH σ → q < 8 → lb (M.2 17 p) q = u p q) (hsz : M.1 3 3 = nI k) (hnew : ∀ i, i < k → M.1 18 i = nI (f i)) (hfl : ∀ i, i < k → f i < sL σ) {p : Nat} (hp : p < sH σ) {post : Int64 → Prop}
    (h : ∀ y, (∀ j, j < 8 → lb y j = gs (fun i => gm (u p (4 + i)) (lb (M.2 15 (f i)) j)) k) → post y) : pX3_bytesFor M (nI p) post := by
  have hH := W.2.2.1
  have hL := W.2.1
  unfold pX3_bytesFor pX3_bytesFor_L5
  refine ⟨fun n x1 x2 x4 => ∃ i, i ≤ k ∧ n = k - i ∧ x1 = nI p ∧ x4 = nI i ∧ ∀ j, j < 8 → lb x2 j = gs (fun i => gm (u p (4 + i)) (lb (M.2 15 (f i)) j)) i, ⟨k, 0, by omega, rfl, rfl, rfl, fun j _ => lb_0 j⟩, ?_⟩
  rintro n x1 x2 x4 ⟨i, hi, hn, rfl, rfl, hv⟩
  unfold pX3_bytesFor_b5
  rw [hsz]
  refine lp (by omega) hi (fun e => by subst e; exact h x2 hv) (fun hi2 => ?_)
  have hfi := hfl i hi2
  rw [nI_clamp (n := i) (by omega), hnew i hi2, nI_clamp (n := f i) (by omega)]
  refine ⟨vp_in_nI (by omega) (by decide), vp_in_nI (by omega) (by decide), sX3_keyNumber W hrow hp (by omega) (sX5_scaled (bu p _) (fun y hy => ⟨k - (i + 1), by omega, i + 1, by omega, rfl, rfl, nI_1 i, fun j hj => ?_⟩))⟩
  rw [lb_xor, hv j hj, hy j hj, gs_succ, gm_comm (lb_lt _ _) (bu p _)]
