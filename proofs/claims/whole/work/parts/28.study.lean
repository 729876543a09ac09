/-! what is new: the model -/
theorem ofs9 (a b : Nat) : (9 : Int32) * nI a + nI b = nI (9 * a + b) := by
  rw [show (9 : Int32) * nI a = nI (9 * a) from pk_mul 9 a, nI_add]
theorem gs_re {F la : Nat → Nat} {h k : Nat} (hi : ∀ i j, i < j → j < k → la i ≠ la j) (hl : ∀ j, j < k → la j < h) (hz : ∀ p, p < h → (∀ j, j < k → la j ≠ p) → F p = 0) : gs (fun j => F (la j)) k = gs F h := by
  have hi2 : ∀ i j, i < k → j < k → la i = la j → i = j := fun i j h1 h2 e => by
    rcases Nat.lt_trichotomy i j with z | z | z
    · exact absurd e (hi i j z h2)
    · exact z
    · exact absurd e.symm (hi j i z h1)
  have s1 : gs F h = gs (fun p => gs (fun j => if la j = p then F p else 0) k) h := gs_cong (fun p hp => by
    by_cases e : ∃ j, j < k ∧ la j = p
    · obtain ⟨j, hj, e⟩ := e
      rw [gs_one hj (fun i h1 h2 => if_neg (fun q => h2 (hi2 i j h1 hj (q.trans e.symm)))), if_pos e]
    · have hn : ∀ j, j < k → la j ≠ p := fun j hj q => e ⟨j, hj, q⟩
      rw [gs_zero (fun j hj => if_neg (hn j hj)), hz p hp hn])
  rw [s1, gs_swap]
  refine gs_cong (fun j hj => ?_)
  rw [gs_one (hl j hj) (fun p _ hne => if_neg (fun q => hne q.symm)), if_pos rfl]
def K38 (N N' : zM) : Prop := (∀ c, c ≠ 38 → N'.1 c = N.1 c) ∧ N'.2 = N.2
theorem K38.rf {N : zM} : K38 N N := ⟨fun _ _ => rfl, rfl⟩
theorem K38.tr {N N' N2 : zM} (h : K38 N N') (h2 : K38 N' N2) : K38 N N2 := ⟨fun c hc => (h2.1 c hc).trans (h.1 c hc), h2.2.trans h.2⟩
theorem K38.si {N : zM} {k : Nat} {v : Int32} : K38 N (zsi N 38 k v) := ⟨fun a ha => by simp [zsi, zri, ha], rfl⟩
def KT (N N' : zM) : Prop := (∀ c, c ≠ 21 → c ≠ 35 → c ≠ 36 → c ≠ 37 → c ≠ 38 → N'.1 c = N.1 c) ∧ (∀ k, k ≠ 22 → N'.1 21 k = N.1 21 k) ∧ N'.2 = N.2
theorem KT.rf {N : zM} : KT N N := ⟨fun _ _ _ _ _ _ => rfl, fun _ _ => rfl, rfl⟩
theorem KT.tr {N N' N2 : zM} (h : KT N N') (h2 : KT N' N2) : KT N N2 := ⟨fun c a1 a2 a3 a4 a5 => (h2.1 c a1 a2 a3 a4 a5).trans (h.1 c a1 a2 a3 a4 a5), fun k hk => (h2.2.1 k hk).trans (h.2.1 k hk), h2.2.2.trans h.2.2⟩
theorem KT.si {N : zM} {c k : Nat} {v : Int32} (hc : 35 ≤ c ∧ c ≤ 38) : KT N (zsi N c k v) := ⟨fun a a1 a2 a3 a4 a5 => by
  have : a ≠ c := by omega
  simp [zsi, zri, this], fun a ha => by
  have : 21 ≠ c := by omega
  simp [zsi, zri, this], rfl⟩
theorem KT.f {N : zM} {v : Int32} : KT N (zsi N 21 22 v) := ⟨fun a a1 a2 a3 a4 a5 => by simp [zsi, zri, a1], fun a ha => by
  show upd (N.1 21) 22 v a = _
  rw [pk_un ha], rfl⟩
theorem K38.t {N N' : zM} (h : K38 N N') : KT N N' := ⟨fun c _ _ _ _ a5 => h.1 c a5, fun k _ => by rw [h.1 21 (by decide)], h.2⟩
theorem KT.m {N N' : zM} (h : KT N N') : KM N N' := ⟨fun c h1 h2 => h.1 c (by omega) (by omega) (by omega) (by omega) (by omega), fun k hk => h.2.1 k (by omega), fun c _ _ => by rw [h.2.2]⟩
def YR (h k : Nat) (V : Nat → Nat → Nat) (pv : Nat → Bool) (u : Nat → Nat → Nat) (la : Nat → Nat) (N : zM) : Prop :=
  EX h k V pv u ∧ (∀ j, j < k → la j < h ∧ pv (la j) = true ∧ N.1 36 j = nI (la j)) ∧ (∀ i j, i < j → j < k → la i ≠ la j) ∧ (∀ p, p < h → pv p = true → ∃ j, j < k ∧ la j = p) ∧ (∀ j c, j < k → c < 9 → N.1 35 (9 * j + c) = nI (u (la j) c)) ∧ N.1 21 22 = nI k
theorem YR.K {h k : Nat} {V : Nat → Nat → Nat} {pv : Nat → Bool} {u : Nat → Nat → Nat} {la : Nat → Nat} {N N' : zM} (S : YR h k V pv u la N) (hK : K38 N N') : YR h k V pv u la N' := by
  unfold YR
  rw [hK.1 36 (by decide), hK.1 35 (by decide), hK.1 21 (by decide)]
  exact S
theorem YR.rs {h k : Nat} {V : Nat → Nat → Nat} {pv : Nat → Bool} {u : Nat → Nat → Nat} {la : Nat → Nat} {N : zM} (S : YR h k V pv u la N) {v : Nat → Nat} (hv : nb v) (c : Nat) : v c ^^^ gs (fun i => gm (v (la i)) (u (la i) c)) k = rsd h u v c := by
  unfold rsd
  congr 1
  refine gs_re (F := fun p => gm (v p) (u p c)) S.2.2.1 (fun j hj => (S.2.1 j hj).1) (fun p hp hn => ?_)
  cases hq : pv p with
  | true =>
    obtain ⟨j, hj, e⟩ := S.2.2.2.1 p hp hq
    exact absurd e (hn j hj)
  | false => show gm (v p) (u p c) = 0; rw [(S.1.1.2.2.1 p hp hq).1 c]; exact gm_zero (hv p)
theorem YR.at {h k : Nat} {V : Nat → Nat → Nat} {pv : Nat → Bool} {u : Nat → Nat → Nat} {la : Nat → Nat} {N : zM} (S : YR h k V pv u la N) {v : Nat → Nat} (hv : nb v) {j : Nat} (hj : j < k) : v (la j) ^^^ gs (fun i => gm (v (la i)) (u (la i) (la j))) j = v (la j) := by
  rw [gs_zero (fun i hi => ?_), Nat.xor_zero]
  rw [EL_col S.1.1 (S.2.1 i (by omega)).1 (S.2.1 j hj).1 (S.2.1 j hj).2.1 (S.2.2.1 i j hi hj)]
  exact gm_zero (hv _)
theorem sX6_reduce {h k : Nat} {V : Nat → Nat → Nat} {pv : Nat → Bool} {u : Nat → Nat → Nat} {la : Nat → Nat} {N : zM} (h4 : h ≤ 4) (S : YR h k V pv u la N) {v : Nat → Nat} (hv : nb v) (hr : ∀ c, c < 9 → N.1 38 c = nI (v c)) {post : zM → Prop} (hh : ∀ N', K38 N N' → (∀ c, c < 9 → N'.1 38 c = nI (rsd h u v c)) → post N') : pX6_reduce N post := by
  have bu : ∀ p, nb (u p) := S.1.1.1.1
  have hkh := EL_k S.1.1
  unfold pX6_reduce pX6_reduce_L2
  refine ⟨fun n x1 N1 => ∃ j, j ≤ k ∧ n = k - j ∧ x1 = nI j ∧ K38 N N1 ∧ ∀ c, c < 9 → N1.1 38 c = nI (v c ^^^ gs (fun i => gm (v (la i)) (u (la i) c)) j), ⟨k, 0, by omega, rfl, rfl, K38.rf, fun c hc => by rw [hr c hc]; congr 1; exact (Nat.xor_zero _).symm⟩, ?_⟩
  rintro n x1 N1 ⟨j, hj, hn, rfl, hK, hv1⟩
  have S1 := S.K hK
  unfold pX6_reduce_b2 pX6_reduce_L24
  rw [S1.2.2.2.2.2]
  refine lp (by omega) hj (fun e => ?_) (fun hj2 => ?_)
  · subst e
    exact hh N1 hK (fun c hc => by rw [hv1 c hc, S.rs hv])
  · have hla := S1.2.1 j hj2
    rw [nI_clamp (n := j) (by omega), hla.2.2, nI_clamp (n := la j) (by omega), hv1 _ (by omega), S.at hv hj2]
    refine ⟨vp_in_nI (by omega) (by decide), vp_in_nI (by omega) (by decide), ?_⟩
    refine ⟨fun m x1 x2 x3 N2 => ∃ c, c ≤ 9 ∧ m = 9 - c ∧ x1 = nI j ∧ x2 = nI (v (la j)) ∧ x3 = nI c ∧ K38 N N2 ∧ ∀ c', c' < 9 → N2.1 38 c' = nI (v c' ^^^ gs (fun i => gm (v (la i)) (u (la i) c')) (if c' < c then j + 1 else j)), ⟨9, 0, by omega, rfl, rfl, rfl, rfl, hK, fun c hc => by rw [if_neg (by omega)]; exact hv1 c hc⟩, ?_⟩
    rintro m x1 x2 x3 N2 ⟨c, hc, hm, rfl, rfl, rfl, hK2, hv2⟩
    have S2 := S.K hK2
    unfold pX6_reduce_b24 pX6_reduce_b64
    have blt := hv (la j)
    refine lp (n := 9) (by omega) hc (fun e => ⟨k - (j + 1), by omega, j + 1, by omega, rfl, nI_1 j, hK2, fun c' hc' => by rw [hv2 c' hc', if_pos (by omega)]⟩) (fun hc2 => nI_e0 (by omega) (fun e0 => ⟨k - (j + 1), by omega, j + 1, by omega, rfl, nI_1 j, hK2, fun c' hc' => ?_⟩) (fun e0 => ?_))
    · rw [hv2 c' hc']
      congr 2
      split
      · rfl
      · rw [gs_succ, e0, gm_zero' (bu _ _), Nat.xor_zero]
    · rw [ofs9, nI_clamp (n := c) (by omega), nI_clamp (n := 9 * j + c) (by omega), S2.2.2.2.2.1 j c hj2 hc2, hv2 c hc2, if_neg (by omega)]
      refine ⟨vp_in_nI (by omega) (by decide), vp_in_nI (by omega) (by decide), sX6_product blt (bu _ _) ⟨vp_in_nI (by omega) (by decide), 9 - (c + 1), by omega, c + 1, by omega, rfl, rfl, rfl, nI_1 c, hK2.tr K38.si, fun c' hc' => ?_⟩⟩
      show upd (N2.1 38) c _ c' = _
      by_cases e : c' = c
      · rw [e, pk_us, if_pos (by omega), gs_succ, nx_xor, Nat.xor_assoc]
      · rw [pk_un e, hv2 c' hc']
        by_cases e2 : c' < c
        · rw [if_pos e2, if_pos (by omega)]
        · rw [if_neg e2, if_neg (by omega)]
/-- where a step leaves the rows -/
theorem sX6_steps {h k : Nat} {V : Nat → Nat → Nat} {pv : Nat → Bool} {u : Nat → Nat → Nat} {la : Nat → Nat} {N : zM} (h4 : h ≤ 4) (hH : N.1 21 3 = nI h) (S : YR h k V pv u la N) {v : Nat → Nat} (hv : nb v) (hr : ∀ c, c < 9 → N.1 38 c = nI (v c)) {post : Int32 → zM → Prop}
    (h0 : (∀ q, q < h → rsd h u v q = 0) → ∀ N', K38 N N' → post 0 N')
    (h1 : ∀ t, t < h → rsd h u v t ≠ 0 → ∀ N', KT N N' → N'.1 37 = N.1 37 → N'.1 21 22 = nI (k + 1) → (∀ j, j < k + 1 → N'.1 36 j = nI (if j = k then t else la j)) → (∀ j c, j < k + 1 → c < 9 → N'.1 35 (9 * j + c) = nI (elU u t (rsd h u v) (if j = k then t else la j) c)) → post 1 N') : pX6_steps N post := by
  have bu : ∀ p, nb (u p) := S.1.1.1.1
  have hkh := EL_k S.1.1
  unfold pX6_steps
  refine sX6_reduce h4 S hv hr (fun N1 hK hw => ?_)
  have S1 := S.K hK
  have hH1 : N1.1 21 3 = nI h := by rw [hK.1 21 (by decide)]; exact hH
  have bw : nb (rsd h u v) := rsd_nb hv
  unfold pX6_steps_L6
  refine ⟨fun n x1 N2 => ∃ t, t ≤ h ∧ n = h - t ∧ x1 = nI t ∧ N2 = N1 ∧ ∀ q, q < t → rsd h u v q = 0, ⟨h, 0, by omega, rfl, rfl, rfl, fun q hq => by omega⟩, ?_⟩
  rintro n x1 N2 ⟨t, ht, hn, rfl, rfl, hz⟩
  unfold pX6_steps_b6
  rw [hH1, nI_clamp (n := t) (by omega)]
  have blt := bw t
  refine lp (by omega) ht (fun e => ?_) (fun ht2 => ⟨vp_in_nI (by omega) (by decide), fun q => ?_, fun q => ⟨h - (t + 1), by omega, t + 1, by omega, rfl, nI_1 t, rfl, fun q' hq' => ?_⟩⟩)
  · subst e
    unfold pX6_steps_b29
    rw [hH1]
    exact ⟨fun q => absurd rfl q, fun _ => ⟨Or.inl rfl, h0 hz N2 hK⟩⟩
  · rw [hw t (by omega)] at q
    have hnz : rsd h u v t ≠ 0 := fun e => q (by rw [e]; rfl)
    have hk1 : k + 1 ≤ h := EL_k (EL_step S.1.1 hv ht2 hnz)
    have hpt : pv t = false := by
      cases hq : pv t with
      | false => rfl
      | true => exact absurd (EL_piv S.1.1 hv ht2 hq) hnz
    have hlat : ∀ j, j < k → la j ≠ t := fun j hj e => by
      have := (S.2.1 j hj).2.1
      rw [e, hpt] at this
      cases this
    have fin := h1 t ht2 hnz
    unfold pX6_steps_b29
    rw [hH1, nI_clamp (n := t) (by omega), hw t (by omega)]
    generalize hwd : rsd h u v = w at *
    refine ⟨fun _ => ⟨vp_in_nI (by omega) (by decide), sX6_inverseOf (bw t) hnz ?_⟩, fun q => absurd ((nI_eq (by omega) (by omega)).mp q) (by omega)⟩
    unfold pX6_steps_L51
    refine ⟨fun m x1 x2 x3 N3 => ∃ c, c ≤ 9 ∧ m = 9 - c ∧ x1 = nI t ∧ x2 = nI (gi (w t)) ∧ x3 = nI c ∧ K38 N N3 ∧ ∀ c', c' < 9 → N3.1 38 c' = nI (if c' < c then gm (gi (w t)) (w c') else w c'), ⟨9, 0, by omega, rfl, rfl, rfl, rfl, hK, fun c hc => by rw [if_neg (by omega)]; exact hw c hc⟩, ?_⟩
    rintro m x1 x2 x3 N3 ⟨c, hc, hm, rfl, rfl, rfl, hK3, hv3⟩
    unfold pX6_steps_b51
    refine lp (n := 9) (by omega) hc (fun e => ?_) (fun hc2 => ?_)
    · subst e
      have hy : ∀ c', c' < 9 → N3.1 38 c' = nI (gm (gi (w t)) (w c')) := fun c' hc' => by rw [hv3 c' hc', if_pos hc']
      have S3 := S.K hK3
      have by' : ∀ c', gm (gi (w t)) (w c') < 256 := fun c' => gm_lt (gi_lt _)
      unfold pX6_steps_L81
      refine ⟨fun m x1 x3 N4 => ∃ j, j ≤ k ∧ m = k - j ∧ x1 = nI t ∧ x3 = nI j ∧ KT N N4 ∧ N4.1 36 = N.1 36 ∧ N4.1 37 = N.1 37 ∧ N4.1 21 = N.1 21 ∧ N4.1 38 = N3.1 38 ∧ ∀ j' c', j' < k → c' < 9 → N4.1 35 (9 * j' + c') = nI (if j' < j then elU u t w (la j') c' else u (la j') c'), ⟨k, 0, by omega, rfl, rfl, rfl, hK3.t, hK3.1 36 (by decide), hK3.1 37 (by decide), hK3.1 21 (by decide), rfl, fun j' c' h3 h5 => by rw [if_neg (by omega)]; exact S3.2.2.2.2.1 j' c' h3 h5⟩, ?_⟩
      rintro m x1 x3 N4 ⟨j, hj, hm, rfl, rfl, hK4, k36, k37, k21, k38, hv4⟩
      unfold pX6_steps_b81
      have h22 : N4.1 21 22 = nI k := by rw [k21]; exact S.2.2.2.2.2
      rw [h22]
      refine lp (by omega) hj (fun e => ?_) (fun hj2 => ?_)
      · subst e
        have hv4' : ∀ j' c', j' < j → c' < 9 → N4.1 35 (9 * j' + c') = nI (elU u t w (la j') c') := fun j' c' h3 h5 => by rw [hv4 j' c' h3 h5, if_pos h3]
        unfold pX6_steps_L158
        refine ⟨fun m x1 x3 N5 => ∃ c, c ≤ 9 ∧ m = 9 - c ∧ x1 = nI t ∧ x3 = nI c ∧ KT N N5 ∧ N5.1 36 = N.1 36 ∧ N5.1 37 = N.1 37 ∧ N5.1 21 = N.1 21 ∧ N5.1 38 = N3.1 38 ∧ (∀ j' c', j' < j → c' < 9 → N5.1 35 (9 * j' + c') = nI (elU u t w (la j') c')) ∧ ∀ c', c' < c → N5.1 35 (9 * j + c') = nI (elU u t w t c'), ⟨9, 0, by omega, rfl, rfl, rfl, hK4, k36, k37, k21, k38, hv4', fun c hc => by omega⟩, ?_⟩
        rintro m x1 x3 N5 ⟨c, hc, hm, rfl, rfl, hK5, k36, k37, k21, k38, hv5, hn5⟩
        unfold pX6_steps_b158
        have h22 : N5.1 21 22 = nI j := by rw [k21]; exact S.2.2.2.2.2
        rw [h22]
        refine lp (n := 9) (by omega) hc (fun e => ?_) (fun hc2 => ?_)
        · subst e
          rw [nI_clamp (n := j) (by omega)]
          refine ⟨vp_in_nI (by omega) (by decide), Or.inr rfl, fin _ (hK5.tr ((KT.si (by decide)).tr KT.f)) k37 ?_ (fun j' hj' => ?_) (fun j' c' hj' hc' => ?_)⟩
          · show upd (N5.1 21) 22 (N5.1 21 22 + 1) 22 = _
            rw [pk_us, h22, nI_1]
          · show upd (N5.1 36) j (nI t) j' = _
            by_cases e : j' = j
            · rw [e, pk_us, if_pos rfl]
            · rw [pk_un e, if_neg e, k36]; exact (S.2.1 j' (by omega)).2.2
          · show N5.1 35 (9 * j' + c') = _
            by_cases e : j' = j
            · rw [e, if_pos rfl]; exact hn5 c' hc'
            · rw [if_neg e]; exact hv5 j' c' (by omega) hc'
        · rw [ofs9, nI_clamp (n := c) (by omega), nI_clamp (n := 9 * j + c) (by omega), k38, hy c hc2]
          refine ⟨vp_in_nI (by omega) (by decide), vp_in_nI (by omega) (by decide), 9 - (c + 1), by omega, c + 1, by omega, rfl, rfl, nI_1 c, hK5.tr (KT.si (by decide)), k36, k37, k21, k38, fun j' c' hj' hc' => ?_, fun c' hc' => ?_⟩
          · show upd (N5.1 35) (9 * j + c) _ (9 * j' + c') = _
            rw [pk_un (by omega)]; exact hv5 j' c' hj' hc'
          · show upd (N5.1 35) (9 * j + c) _ (9 * j + c') = _
            by_cases e : c' = c
            · rw [e, pk_us]; unfold elU; rw [if_pos rfl]
            · rw [pk_un (by omega)]; exact hn5 c' (by omega)
      · rw [ofs9, nI_clamp (n := 9 * j + t) (by omega), hv4 j t hj2 (by omega), if_neg (by omega)]
        refine ⟨vp_in_nI (by omega) (by decide), ?_⟩
        have hne := hlat j hj2
        have blt2 := bu (la j) t
        unfold pX6_steps_L105
        refine ⟨fun m x1 x3 x4 x5 N5 => ∃ c, c ≤ 9 ∧ m = 9 - c ∧ x1 = nI t ∧ x3 = nI j ∧ x4 = nI (u (la j) t) ∧ x5 = nI c ∧ KT N N5 ∧ N5.1 36 = N.1 36 ∧ N5.1 37 = N.1 37 ∧ N5.1 21 = N.1 21 ∧ N5.1 38 = N3.1 38 ∧ (∀ j' c', j' < k → c' < 9 → N5.1 35 (9 * j' + c') = nI (if j' < j ∨ (j' = j ∧ c' < c) then elU u t w (la j') c' else u (la j') c')), ⟨9, 0, by omega, rfl, rfl, rfl, rfl, rfl, hK4, k36, k37, k21, k38, fun j' c' h3 h5 => ?_⟩, ?_⟩
        · rw [hv4 j' c' h3 h5]
          by_cases e : j' < j
          · rw [if_pos e, if_pos (Or.inl e)]
          · rw [if_neg e, if_neg (by omega)]
        · rintro m x1 x3 x4 x5 N5 ⟨c, hc, hm, rfl, rfl, rfl, rfl, hK5, k36, k37, k21, k38, hv5⟩
          unfold pX6_steps_b105 pX6_steps_b150
          refine lp (n := 9) (by omega) hc (fun e => ⟨k - (j + 1), by omega, j + 1, by omega, rfl, rfl, nI_1 j, hK5, k36, k37, k21, k38, fun j' c' h3 h5 => ?_⟩) (fun hc2 => nI_e0 (by omega) (fun e0 => ⟨k - (j + 1), by omega, j + 1, by omega, rfl, rfl, nI_1 j, hK5, k36, k37, k21, k38, fun j' c' h3 h5 => ?_⟩) (fun e0 => ?_))
          · rw [hv5 j' c' h3 h5]
            by_cases e2 : j' < j + 1
            · rw [if_pos e2, if_pos (by omega)]
            · rw [if_neg e2, if_neg (by omega)]
          · rw [hv5 j' c' h3 h5]
            by_cases e2 : j' < j
            · rw [if_pos (Or.inl e2), if_pos (by omega)]
            · by_cases e3 : j' = j
              · have : elU u t w (la j') c' = u (la j') c' := by
                  unfold elU
                  rw [e3, if_neg hne, e0, gm_zero' (by' c'), Nat.xor_zero]
                rw [this]
                split <;> split <;> rfl
              · rw [if_neg (by omega), if_neg (by omega)]
          · rw [ofs9, nI_clamp (n := c) (by omega), nI_clamp (n := 9 * j + c) (by omega), k38, hy c hc2, hv5 j c hj2 hc2, if_neg (by omega)]
            refine ⟨vp_in_nI (by omega) (by decide), vp_in_nI (by omega) (by decide), sX6_product blt2 (by' c) ⟨vp_in_nI (by omega) (by decide), 9 - (c + 1), by omega, c + 1, by omega, rfl, rfl, rfl, rfl, nI_1 c, hK5.tr (KT.si (by decide)), k36, k37, k21, k38, fun j' c' h3 h5 => ?_⟩⟩
            show upd (N5.1 35) (9 * j + c) _ (9 * j' + c') = _
            by_cases e : j' = j ∧ c' = c
            · rw [e.1, e.2, pk_us, if_pos (by omega), nx_xor]
              unfold elU
              rw [if_neg hne]
            · rw [pk_un (by omega), hv5 j' c' h3 h5]
              by_cases e2 : j' < j ∨ (j' = j ∧ c' < c)
              · rw [if_pos e2, if_pos (by omega)]
              · rw [if_neg e2, if_neg (by omega)]
    · rw [nI_clamp (n := c) (by omega), hv3 c hc2, if_neg (by omega)]
      refine ⟨vp_in_nI (by omega) (by decide), sX6_product (gi_lt _) (bw c) ⟨vp_in_nI (by omega) (by decide), 9 - (c + 1), by omega, c + 1, by omega, rfl, rfl, rfl, nI_1 c, hK3.tr K38.si, fun c' hc' => ?_⟩⟩
      show upd (N3.1 38) c _ c' = _
      by_cases e : c' = c
      · rw [e, pk_us, if_pos (by omega)]
      · rw [pk_un e, hv3 c' hc']
        by_cases e2 : c' < c
        · rw [if_pos e2, if_pos (by omega)]
        · rw [if_neg e2, if_neg (by omega)]
  · rw [hw t (by omega)] at q
    have : rsd h u v t = 0 := (nI_eq (b := 0) (by omega) (by decide)).mp q
    rcases (show q' < t ∨ q' = t by omega) with z | z
    · exact hz q' z
    · rw [z]; exact this
