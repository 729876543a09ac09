/-! what lines say and carry: the model -/
theorem sX6_lineIn {σ : Sg} {N : zM} (W : Wf σ) (Y : RM σ N) {r i : Nat} (hr : r < 12) (hi : i < cnt σ r (sL σ)) {post : Int32 → Prop} (h : post (nI (lin σ r i))) : pX6_lineIn N (nI r) (nI i) post := by
  have hL := W.2.1
  have hR := W.1
  have hcL := cnt_le σ r (sL σ)
  unfold pX6_lineIn pX6_lineIn_L5
  refine ⟨fun n x1 x3 x4 => ∃ k, k ≤ sL σ ∧ n = sL σ - k ∧ cnt σ r k ≤ i ∧ x1 = nI r ∧ x3 = nI (i - cnt σ r k) ∧ x4 = nI k, ⟨sL σ, 0, by omega, rfl, Nat.zero_le _, rfl, rfl, rfl⟩, ?_⟩
  rintro n x1 x3 x4 ⟨k, hk, hn, hle, rfl, rfl, rfl⟩
  unfold pX6_lineIn_b5 pX6_lineIn_b38
  rw [Y.1.2.1]
  have e1 : (nI (sL σ) ≤ nI k) ↔ sL σ ≤ k := nI_leI (by omega) (by omega)
  refine ⟨fun q => ?_, fun q => ?_⟩
  · exfalso
    have : k = sL σ := by have := e1.mp q; omega
    subst this
    omega
  · have hk2 : k < sL σ := by
      rcases Nat.lt_or_ge k (sL σ) with z | z
      · exact z
      · exact absurd (e1.mpr z) q
    have hFT := W.2.2.2.1 k hk2
    rw [nI_clamp (by omega), (Y.2.2.2.1 k hk2).2]
    have e2 : (nI (sT σ k) = nI r) ↔ sT σ k = r := nI_eq (by omega) (by omega)
    refine ⟨vp_in_nI (by omega) (by decide), fun q2 => ?_, fun q2 => ⟨sL σ - (k + 1), by omega, k + 1, by omega, rfl, ?_, rfl, ?_, nI_1 k⟩⟩
    · have hT := e2.mp q2
      have e3 : (nI (i - cnt σ r k) = 0) ↔ i - cnt σ r k = 0 := nI_eq (b := 0) (by omega) (by decide)
      refine ⟨fun q3 => ?_, fun q3 => ?_⟩
      · have hpos : 0 < i - cnt σ r k := by
          rcases Nat.eq_zero_or_pos (i - cnt σ r k) with z | z
          · exact absurd (e3.mpr z) q3
          · exact z
        refine ⟨sL σ - (k + 1), by omega, k + 1, by omega, rfl, ?_, rfl, ?_, nI_1 k⟩
        · rw [cnt_succ, if_pos hT]; omega
        · rw [cnt_succ, if_pos hT, sb_m1 hpos]
          congr 1
      · have : isIn σ r i k := ⟨hk2, hT, by have := e3.mp q3; omega⟩
        rw [lin_eq this] at h
        exact h
    · rw [cnt_succ, if_neg (fun z => q2 (e2.mpr z))]; exact hle
    · rw [cnt_succ, if_neg (fun z => q2 (e2.mpr z))]; rfl
def KW (N N' : zM) : Prop := (∀ c, c ≠ 33 → N'.1 c = N.1 c) ∧ (∀ c, c ≠ 34 → N'.2 c = N.2 c)
theorem KW.rf {N : zM} : KW N N := ⟨fun _ _ => rfl, fun _ _ => rfl⟩
theorem KW.tr {N N' N2 : zM} (h : KW N N') (h2 : KW N' N2) : KW N N2 := ⟨fun c hc => (h2.1 c hc).trans (h.1 c hc), fun c hc => (h2.2 c hc).trans (h.2 c hc)⟩
theorem KW.si {N : zM} {k : Nat} {v : Int32} : KW N (zsi N 33 k v) := ⟨fun a ha => by simp [zsi, zri, ha], fun _ _ => rfl⟩
theorem KW.sj {N : zM} {k : Nat} {v : Int64} : KW N (zsj N 34 k v) := ⟨fun _ _ => rfl, fun a ha => by simp [zsj, zrj, ha]⟩
theorem KW.m {N N' : zM} (h : KW N N') : KM N N' := ⟨fun c h1 h2 => h.1 c (by omega), fun k _ => by rw [h.1 21 (by decide)], fun c h1 h2 => h.2 c (by omega)⟩
def dnA (σ : Sg) (a b : Int32) (l : Nat) : Bool := sB σ l || (decide (nI l = a) || decide (nI l = b))
def wdone (σ : Sg) (dn : Nat → Bool) (N : zM) (l : Nat) : Prop := (∀ p, p < 4 → N.1 33 (4 * l + p) = nI (vV σ dn l p)) ∧ (∀ j, j < 8 → lb (N.2 34 l) j = vC σ dn l j)
theorem mxs_lt {σ : Sg} {bs t : Nat → Nat → Nat} (hb : ∀ i j, bs i j < 256) (ht : ∀ l j, t l j < 256) (l j k : Nat) : mxs σ bs t l j k < 256 := gs_lt (fun i _ => gm_lt (by split; exact hb i j; exact ht _ _))
theorem mxs_zero {σ : Sg} (W : Wf σ) (dn : Nat → Bool) {l j k : Nat} (hj : sH σ ≤ j) (hk : k ≤ ins σ l) : mxs σ bsV (vV σ dn) l j k = 0 := by
  refine gs_zero (fun i hi => ?_)
  by_cases e : sF σ l = 0
  · rw [if_pos e]
    have : i < sH σ := by
      have : i < ins σ l := by omega
      unfold ins at this
      rwa [if_pos e] at this
    unfold bsV
    rw [if_neg (by omega)]
    exact gm_zero' (W.2.2.2.2.1 _)
  · rw [if_neg e, vV_zero W dn hj]
    exact gm_zero' (W.2.2.2.2.1 _)
theorem ofs4 (a b : Nat) : (4 : Int32) * nI a + nI b = nI (4 * a + b) := by
  rw [show (4 : Int32) * nI a = nI (4 * a) from pk_mul 4 a, nI_add]
/-- what a line's working leaves beside its own places -/
def wkeep (l : Nat) (N N' : zM) : Prop := KW N N' ∧ (∀ q, (q < 4 * l ∨ 4 * l + 4 ≤ q) → N'.1 33 q = N.1 33 q) ∧ (∀ m, m ≠ l → N'.2 34 m = N.2 34 m)
theorem wkeep.rf {l : Nat} {N : zM} : wkeep l N N := ⟨KW.rf, fun _ _ => rfl, fun _ _ => rfl⟩
theorem wkeep.tr {l : Nat} {N N' N2 : zM} (h : wkeep l N N') (h2 : wkeep l N' N2) : wkeep l N N2 := ⟨h.1.tr h2.1, fun q hq => (h2.2.1 q hq).trans (h.2.1 q hq), fun m hm => (h2.2.2 m hm).trans (h.2.2 m hm)⟩
theorem wkeep.si {l p : Nat} {N : zM} {v : Int32} (hp : p < 4) : wkeep l N (zsi N 33 (4 * l + p) v) := ⟨KW.si, fun q hq => by
  show upd (N.1 33) (4 * l + p) v q = _
  rw [pk_un (by omega)], fun _ _ => rfl⟩
theorem wkeep.sj {l : Nat} {N : zM} {v : Int64} : wkeep l N (zsj N 34 l v) := ⟨KW.sj, fun _ _ => rfl, fun m hm => by
  show vp_updL (N.2 34) l v m = _
  rw [pk_uLn hm]⟩
theorem sX6_workLine148 {σ : Sg} {N : zM} (W : Wf σ) (Y : RM σ N) {dn : Nat → Bool} {l k : Nat} (hl : l < sL σ) (hk : k < ins σ l) {x5 : Int32} (h5 : (sF σ l = 0 ∧ x5 = -1) ∨ (sF σ l ≠ 0 ∧ x5 = nI (lin σ (sF σ l) k) ∧ ∀ p, p < 4 → N.1 33 (4 * lin σ (sF σ l) k + p) = nI (vV σ dn (lin σ (sF σ l) k) p))) (hv : ∀ p, p < 4 → N.1 33 (4 * l + p) = nI (mxs σ bsV (vV σ dn) l p k)) {x2 : Int32} {post : zM → Prop} {ag65 : Int32 → Int32 → Int32 → zM → Prop}
    (h : ∀ N', wkeep l N N' → N'.2 = N.2 → (∀ p, p < 4 → N'.1 33 (4 * l + p) = nI (mxs σ bsV (vV σ dn) l p (k + 1))) → ag65 (nI l) x2 (nI k + 1) N') : pX6_workLine_L148 post ag65 (nI l) x2 (nI k) (nI (sA σ (30 * l + k))) x5 0 N := by
  have hL := W.2.1
  have hH := W.2.2.1
  have hA := W.2.2.2.2.1 (30 * l + k)
  have hil := ins_le W l
  have bV := vV_lt W dn
  have mlt : ∀ p m, mxs σ bsV (vV σ dn) l p m < 256 := fun p m => mxs_lt bsV_lt bV l p m
  unfold pX6_workLine_L148
  refine ⟨fun n x1 x2' x3 x4 x5' x6 N1 => ∃ p, p ≤ sH σ ∧ n = sH σ - p ∧ x1 = nI l ∧ x2' = x2 ∧ x3 = nI k ∧ x4 = nI (sA σ (30 * l + k)) ∧ x5' = x5 ∧ x6 = nI p ∧ wkeep l N N1 ∧ N1.2 = N.2 ∧ (∀ q, q < 4 → N1.1 33 (4 * l + q) = nI (mxs σ bsV (vV σ dn) l q (if q < p then k + 1 else k))), ⟨sH σ, 0, by omega, rfl, rfl, rfl, rfl, rfl, rfl, rfl, wkeep.rf, rfl, fun q hq => by rw [if_neg (by omega)]; exact hv q hq⟩, ?_⟩
  rintro n x1 x2' x3 x4 x5' x6 N1 ⟨p, hp, hn, rfl, rfl, rfl, rfl, rfl, rfl, hK, hK2, hv1⟩
  have Y1 := Y.K hK.1.m
  unfold pX6_workLine_b148
  rw [Y1.1.2.2]
  have e1 : (nI (sH σ) ≤ nI p) ↔ sH σ ≤ p := nI_leI (by omega) (by omega)
  refine ⟨fun q => h N1 hK hK2 (fun q' hq' => ?_), fun q => ?_⟩
  · have hph : p = sH σ := by have := e1.mp q; omega
    rw [hv1 q' hq']
    by_cases e : q' < p
    · rw [if_pos e]
    · rw [if_neg e, mxs_zero W dn (by omega) (by omega), mxs_zero W dn (by omega) (by omega)]
  · have hp2 : p < sH σ := by
      rcases Nat.lt_or_ge p (sH σ) with z | z
      · exact z
      · exact absurd (e1.mpr z) q
    rw [ofs4, nI_clamp (n := 4 * l + p) (by omega)]
    have hval : N1.1 33 (4 * l + p) = nI (mxs σ bsV (vV σ dn) l p k) := by rw [hv1 p (by omega), if_neg (by omega)]
    rw [hval]
    have fin : ∀ t : Nat, t = gm (if sF σ l = 0 then bsV k p else vV σ dn (lin σ (sF σ l) k) p) (sA σ (30 * l + k)) → pX6_workLine_b207 post ag65 (fun x1 x2'_1 x3 x4 x5'_1 x6 N1 => ∃ k_1, k_1 < n ∧ ∃ p, p ≤ sH σ ∧ k_1 = sH σ - p ∧ x1 = nI l ∧ x2'_1 = x2' ∧ x3 = nI k ∧ x4 = nI (sA σ (30 * l + k)) ∧ x5'_1 = x5' ∧ x6 = nI p ∧ wkeep l N N1 ∧ N1.2 = N.2 ∧ (∀ q, q < 4 → N1.1 33 (4 * l + q) = nI (mxs σ bsV (vV σ dn) l q (if q < p then k + 1 else k)))) (nI l) x2' (nI k) (nI (sA σ (30 * l + k))) x5' (nI p) (nI t) (nI (mxs σ bsV (vV σ dn) l p k)) (nI (4 * l + p)) N1 := by
      intro t ht
      unfold pX6_workLine_b207
      rw [nI_clamp (by omega), show nI (mxs σ bsV (vV σ dn) l p k) ^^^ nI t = nI (mxs σ bsV (vV σ dn) l p k ^^^ t) from nx_xor _ _]
      refine ⟨vp_in_nI (by omega) (by decide), sH σ - (p + 1), by omega, p + 1, by omega, rfl, rfl, rfl, rfl, rfl, rfl, nI_1 p, hK.tr (wkeep.si (by omega)), hK2, fun q' hq' => ?_⟩
      show upd (N1.1 33) (4 * l + p) _ (4 * l + q') = _
      by_cases e : q' = p
      · subst e
        rw [pk_us, if_pos (by omega), ht]
        rfl
      · rw [pk_un (by omega), hv1 q' hq']
        by_cases e2 : q' < p
        · rw [if_pos e2, if_pos (by omega)]
        · rw [if_neg e2, if_neg (by omega)]
    refine ⟨vp_in_nI (by omega) (by decide), ?_⟩
    rcases h5 with ⟨h0, rfl⟩ | ⟨h0, rfl, hrow⟩
    · refine ⟨fun z => absurd rfl z, fun _ => ?_⟩
      have ekp : (nI p = nI k) ↔ p = k := nI_eq (by omega) (by omega)
      refine ⟨fun z => fin 0 ?_, fun z => fin _ ?_⟩
      · rw [if_pos h0]
        unfold bsV
        rw [if_neg (fun e => z (ekp.mpr e.symm)), gm_zero' hA]
      · rw [if_pos h0]
        unfold bsV
        rw [if_pos (ekp.mp z).symm, gm_one' hA]
    · have hk3 : k < cnt σ (sF σ l) (sL σ) := by
        have := hk
        unfold ins at this
        rwa [if_neg h0] at this
      have hin := isIn_ex hk3
      have hlt := hin.1
      have hne : lin σ (sF σ l) k ≠ l := fun e => by
        have h1 := W.2.2.2.1 _ hin.1
        have h2 := hin.2.1
        rw [e] at h1 h2
        omega
      refine ⟨fun _ => ?_, fun z => absurd z (nI_nm1 (by omega))⟩
      rw [ofs4, nI_clamp (by omega)]
      have hr : N1.1 33 (4 * lin σ (sF σ l) k + p) = nI (vV σ dn (lin σ (sF σ l) k) p) := by
        rw [hK.2.1 _ (by omega)]
        exact hrow p (by omega)
      rw [hr]
      refine ⟨vp_in_nI (by omega) (by decide), sX6_product hA (bV _ _) (fin _ ?_)⟩
      rw [if_neg h0, gm_comm hA (bV _ _)]
theorem sX6_workLine {σ : Sg} {N : zM} (W : Wf σ) (Y : RM σ N) {a b : Int32} (A : Al N a b) {l : Nat} (hl : l < sL σ) (hin : sF σ l ≠ 0 → ∀ i l', isIn σ (sF σ l) i l' → wdone σ (dnA σ a b) N l') {post : zM → Prop} (h : ∀ N', wkeep l N N' → wdone σ (dnA σ a b) N' l → post N') : pX6_workLine N (nI l) post := by
  have hL := W.2.1
  have hH := W.2.2.1
  have hR := W.1
  have hF := W.2.2.2.1 l hl
  have hil := ins_le W l
  have bV := vV_lt W (dnA σ a b)
  have bC := vC_lt W (dnA σ a b)
  unfold pX6_workLine
  rw [nI_clamp (by omega)]
  refine ⟨vp_in_nI (by omega) (by decide), ?_⟩
  unfold pX6_workLine_L9
  refine ⟨fun n x1 x2 N1 => ∃ k, k ≤ 4 ∧ n = 4 - k ∧ x1 = nI l ∧ x2 = nI k ∧ wkeep l N N1 ∧ N1.2 34 l = 0 ∧ ∀ p, p < k → N1.1 33 (4 * l + p) = 0, ⟨4, 0, by omega, rfl, rfl, rfl, wkeep.sj, pk_uLs, fun p hp => by omega⟩, ?_⟩
  rintro n x1 x2 N1 ⟨k, hk, hn, rfl, rfl, hK, hc0, hz⟩
  have Y1 := Y.K hK.1.m
  have A1 := A.K hK.1.m
  unfold pX6_workLine_b9
  have e1 : ((4 : Int32) ≤ nI k) ↔ 4 ≤ k := nI_leI (a := 4) (by decide) (by omega)
  refine ⟨fun q => ⟨vp_in_nI (by omega) (by decide), ?_⟩, fun q => ?_⟩
  · have hk4 : k = 4 := by have := e1.mp q; omega
    subst hk4
    have stop : dnA σ a b l = true → post N1 := fun hd => h N1 hK ⟨fun p hp => by
      rw [hz p hp]
      unfold vV
      rw [vv_eq W _ _ _ hl, hd]; rfl, fun j hj => by
      rw [hc0, lb_0]
      unfold vC
      rw [vv_eq W _ _ _ hl, hd]; rfl⟩
    unfold pX6_workLine_b56
    rw [nI_clamp (by omega), (Y1.2.2.2.2.1 l (by omega)).2, A1.1, A1.2]
    refine bI_e0 (fun hb => stop (by unfold dnA; rw [hb]; rfl)) (fun hb => ⟨fun qa => stop (by unfold dnA; rw [decide_eq_true qa]; simp), fun qa => ⟨fun qb => ?_, fun qb => stop (by unfold dnA; rw [decide_eq_true qb]; simp)⟩⟩)
    have hd : dnA σ a b l = false := by unfold dnA; rw [hb, decide_eq_false qa, decide_eq_false qb]; rfl
    refine sX6_ins W Y1 hl ?_
    unfold pX6_workLine_L65
    refine ⟨fun n x1 x2 x3 N2 => ∃ k, k ≤ ins σ l ∧ n = ins σ l - k ∧ x1 = nI l ∧ x2 = nI (ins σ l) ∧ x3 = nI k ∧ wkeep l N N2 ∧ (∀ p, p < 4 → N2.1 33 (4 * l + p) = nI (mxs σ bsV (vV σ (dnA σ a b)) l p k)) ∧ (∀ j, j < 8 → lb (N2.2 34 l) j = mxs σ (bsC σ) (vC σ (dnA σ a b)) l j k), ⟨ins σ l, 0, by omega, rfl, rfl, rfl, rfl, hK, hz, fun j _ => by rw [hc0, lb_0]; rfl⟩, ?_⟩
    rintro n x1 x2 x3 N2 ⟨k, hk, hn, rfl, rfl, rfl, hK2, hvV, hvC⟩
    have Y2 := Y.K hK2.1.m
    unfold pX6_workLine_b65
    have e2 : (nI (ins σ l) ≤ nI k) ↔ ins σ l ≤ k := nI_leI (by omega) (by omega)
    have hv30 := vp_in_nI (n := l) (N := 30) (by omega) (by decide)
    refine ⟨fun q2 => ⟨hv30, hv30, hv30, ?_⟩, fun q2 => ?_⟩
    · have hk2 : k = ins σ l := by have := e2.mp q2; omega
      subst hk2
      rw [nI_clamp (by omega)]
      refine h _ (hK2.tr wkeep.sj) ⟨fun p hp => ?_, fun j hj => ?_⟩
      · show N2.1 33 (4 * l + p) = _
        rw [hvV p hp]
        congr 1
        show _ = vv σ (dnA σ a b) bsV (fun _ _ => 0) l p
        rw [vv_eq W _ _ _ hl, hd]
        show _ = gs _ _ ^^^ 0
        rw [Nat.xor_zero]
        rfl
      · show lb (vp_updL (N2.2 34) l _ l) j = _
        rw [pk_uLs, lb_xor, hvC j hj, Y2.2.2.2.2.2.1 l (by omega)]
        show _ = vv σ (dnA σ a b) (bsC σ) (adC σ) l j
        rw [vv_eq W _ _ _ hl, hd]
        rfl
    · have hk2 : k < ins σ l := by
        rcases Nat.lt_or_ge k (ins σ l) with z | z
        · exact z
        · exact absurd (e2.mpr z) q2
      have hs : 30 * l + k < 900 := by omega
      have hA := W.2.2.2.2.1 (30 * l + k)
      rw [slotM, nI_clamp (n := 30 * l + k) (by omega), nI_clamp (n := l) (by omega), Y2.2.2.2.2.2.2 _ hs, (Y2.2.2.2.1 l hl).1]
      refine ⟨vp_in_nI hs (by decide), hv30, ?_⟩
      have body : ∀ (x5 : Int32) (row : Int64), ((sF σ l = 0 ∧ x5 = -1) ∨ (sF σ l ≠ 0 ∧ x5 = nI (lin σ (sF σ l) k) ∧ ∀ p, p < 4 → N2.1 33 (4 * lin σ (sF σ l) k + p) = nI (vV σ (dnA σ a b) (lin σ (sF σ l) k) p))) → (∀ j, j < 8 → lb row j = (if sF σ l = 0 then bsC σ k j else vC σ (dnA σ a b) (lin σ (sF σ l) k) j)) → pX6_workLine_b140 post (fun x1 x2 x3 N2 => ∃ k, k < n ∧ ∃ k_1, k_1 ≤ ins σ l ∧ k = ins σ l - k_1 ∧ x1 = nI l ∧ x2 = nI (ins σ l) ∧ x3 = nI k_1 ∧ wkeep l N N2 ∧ (∀ p, p < 4 → N2.1 33 (4 * l + p) = nI (mxs σ bsV (vV σ (dnA σ a b)) l p k_1)) ∧ (∀ j, j < 8 → lb (N2.2 34 l) j = mxs σ (bsC σ) (vC σ (dnA σ a b)) l j k_1)) (nI l) (nI (ins σ l)) (nI k) (nI (sA σ (30 * l + k))) x5 row (nI (sA σ (30 * l + k))) (N2.2 34 l) (nI l) N2 := by
        intro x5 row h5 hrow
        unfold pX6_workLine_b140
        refine sX6_product_ hA (fun y hy => ⟨hv30, ?_⟩)
        rw [nI_clamp (by omega)]
        have hK3 : wkeep l N2 (zsj N2 34 l (N2.2 34 l ^^^ y)) := wkeep.sj
        refine sX6_workLine148 W (Y2.K hK3.1.m) hl hk2 h5 hvV (fun N' hK' hKj hv' => ⟨ins σ l - (k + 1), by omega, k + 1, by omega, rfl, rfl, rfl, nI_1 k, hK2.tr (hK3.tr hK'), hv', fun j hj => ?_⟩)
        rw [hKj]
        show lb (vp_updL (N2.2 34) l _ l) j = _
        rw [pk_uLs, lb_xor, hvC j hj, hy j hj, hrow j hj]
        show _ = mxs σ (bsC σ) (vC σ (dnA σ a b)) l j k ^^^ gm (if sF σ l = 0 then bsC σ k j else vC σ (dnA σ a b) (lin σ (sF σ l) k) j) (sA σ (30 * l + k))
        rw [gm_comm hA]
        split
        · exact lb_lt _ _
        · exact bC _ _
      refine ⟨fun q3 => ⟨hv30, ?_⟩, fun q3 => ?_⟩
      · have h0 : sF σ l ≠ 0 := fun e => q3 (by rw [e]; rfl)
        have hk3 : k < cnt σ (sF σ l) (sL σ) := by
          have := hk2
          unfold ins at this
          rwa [if_neg h0] at this
        have hin2 := isIn_ex hk3
        have hlt := hin2.1
        have hne : lin σ (sF σ l) k ≠ l := fun e => by
          have h1 := W.2.2.2.1 _ hin2.1
          have h2 := hin2.2.1
          rw [e] at h1 h2
          omega
        have hdone := hin h0 k _ hin2
        refine sX6_lineIn W Y2 (by omega) hk3 ?_
        unfold pX6_workLine_b107
        rw [nI_clamp (n := lin σ (sF σ l) k) (by omega), nI_clamp (n := l) (by omega)]
        refine ⟨hv30, fun _ => ⟨vp_in_nI (by omega) (by decide), body _ _ (Or.inr ⟨h0, rfl, fun p hp => ?_⟩) (fun j hj => ?_)⟩, fun z => absurd z (nI_nm1 (by omega))⟩
        · rw [hK2.2.1 _ (by omega)]; exact hdone.1 p hp
        · rw [if_neg h0, hK2.2.2 _ hne]; exact hdone.2 j hj
      · have h0 : sF σ l = 0 := (nI_eq (b := 0) (by omega) (by decide)).mp q3
        have hk3 : k < sH σ := by
          have := hk2
          unfold ins at this
          rwa [if_pos h0] at this
        unfold pX6_workLine_b107
        rw [nI_clamp (n := k) (by omega), nI_clamp (n := l) (by omega)]
        refine ⟨hv30, fun z => absurd rfl z, fun _ => ⟨vp_in_nI (by omega) (by decide), body _ _ (Or.inl ⟨h0, rfl⟩) (fun j hj => ?_)⟩⟩
        rw [if_pos h0, Y2.2.1 k (by omega)]
        rfl
  · have hk2 : k < 4 := by
      rcases Nat.lt_or_ge k 4 with z | z
      · exact z
      · exact absurd (e1.mpr z) q
    rw [ofs4, nI_clamp (by omega)]
    refine ⟨vp_in_nI (by omega) (by decide), 4 - (k + 1), by omega, k + 1, by omega, rfl, rfl, nI_1 k, hK.tr (wkeep.si hk2), hc0, fun p hp => ?_⟩
    show upd (N1.1 33) (4 * l + k) 0 (4 * l + p) = 0
    by_cases e : p = k
    · subst e; exact pk_us
    · rw [pk_un (by omega)]; exact hz p (by omega)
theorem wdone.K {σ : Sg} {dn : Nat → Bool} {N N' : zM} {l l' : Nat} (h : wdone σ dn N l') (hK : wkeep l N N') (hne : l' ≠ l) : wdone σ dn N' l' := ⟨fun p hp => by rw [hK.2.1 _ (by omega)]; exact h.1 p hp, fun j hj => by rw [hK.2.2 _ hne]; exact h.2 j hj⟩
theorem sX6_work {σ : Sg} {N : zM} (W : Wf σ) (Y : RM σ N) {a b : Int32} (A : Al N a b) {post : zM → Prop} (h : ∀ N', KW N N' → (∀ l, l < sL σ → wdone σ (dnA σ a b) N' l) → post N') : pX6_work N post := by
  have hL := W.2.1
  have hR := W.1
  unfold pX6_work pX6_work_L2
  refine ⟨fun n x1 N1 => ∃ r, r ≤ sR σ ∧ n = sR σ - r ∧ x1 = nI r ∧ KW N N1 ∧ ∀ l, l < sL σ → sF σ l < r → wdone σ (dnA σ a b) N1 l, ⟨sR σ, 0, by omega, rfl, rfl, KW.rf, fun l _ hl => by omega⟩, ?_⟩
  rintro n x1 N1 ⟨r, hr, hn, rfl, hK, hd⟩
  unfold pX6_work_b2
  rw [(Y.K hK.m).1.1]
  have e1 : (nI (sR σ) ≤ nI r) ↔ sR σ ≤ r := nI_leI (by omega) (by omega)
  refine ⟨fun q => ?_, fun q => ?_⟩
  · have : r = sR σ := by have := e1.mp q; omega
    subst this
    exact h N1 hK (fun l hl => hd l hl (by have := W.2.2.2.1 l hl; omega))
  · have hr2 : r < sR σ := by
      rcases Nat.lt_or_ge r (sR σ) with z | z
      · exact z
      · exact absurd (e1.mpr z) q
    unfold pX6_work_L12
    refine ⟨fun m x1 x2 N2 => ∃ k, k ≤ sL σ ∧ m = sL σ - k ∧ x1 = nI r ∧ x2 = nI k ∧ KW N N2 ∧ (∀ l, l < sL σ → (sF σ l < r ∨ (sF σ l = r ∧ l < k)) → wdone σ (dnA σ a b) N2 l), ⟨sL σ, 0, by omega, rfl, rfl, rfl, hK, fun l hl hq => hd l hl (by omega)⟩, ?_⟩
    rintro m x1 x2 N2 ⟨k, hk, hm, rfl, rfl, hK2, hd2⟩
    have Y2 := Y.K hK2.m
    unfold pX6_work_b12 pX6_work_b35
    rw [Y2.1.2.1]
    have e2 : (nI (sL σ) ≤ nI k) ↔ sL σ ≤ k := nI_leI (by omega) (by omega)
    refine ⟨fun q2 => ?_, fun q2 => ?_⟩
    · have : k = sL σ := by have := e2.mp q2; omega
      subst this
      exact ⟨sR σ - (r + 1), by omega, r + 1, by omega, rfl, nI_1 r, hK2, fun l hl hF => hd2 l hl (by omega)⟩
    · have hk2 : k < sL σ := by
        rcases Nat.lt_or_ge k (sL σ) with z | z
        · exact z
        · exact absurd (e2.mpr z) q2
      have hFT := W.2.2.2.1 k hk2
      rw [nI_clamp (by omega), (Y2.2.2.2.1 k hk2).1]
      have e3 : (nI (sF σ k) = nI r) ↔ sF σ k = r := nI_eq (by omega) (by omega)
      refine ⟨vp_in_nI (by omega) (by decide), fun q3 => ⟨sL σ - (k + 1), by omega, k + 1, by omega, rfl, rfl, nI_1 k, hK2, fun l hl hq => hd2 l hl ?_⟩, fun q3 => ?_⟩
      · have hne : sF σ k ≠ r := fun z => q3 (e3.mpr z)
        rcases hq with z | ⟨z1, z2⟩
        · exact Or.inl z
        · refine Or.inr ⟨z1, ?_⟩
          rcases (show l < k ∨ l = k by omega) with w | w
          · exact w
          · subst w; exact absurd z1 hne
      · have hFk := e3.mp q3
        refine sX6_workLine W Y2 (A.K hK2.m) hk2 (fun h0 i l' hin => hd2 l' hin.1 (Or.inl ?_)) (fun N3 hK3 hdone => ⟨sL σ - (k + 1), by omega, k + 1, by omega, rfl, rfl, nI_1 k, hK2.tr hK3.1, fun l hl hq => ?_⟩)
        · have h1 := W.2.2.2.1 _ hin.1
          have h2 := hin.2.1
          omega
        · by_cases e : l = k
          · subst e; exact hdone
          · exact (hd2 l hl (by omega)).K hK3 e
/-! the cases -/
theorem dnA_m1 {σ : Sg} {l : Nat} (hl : l < 2 ^ 31) : dnA σ (-1) (-1) l = sB σ l := by
  unfold dnA
  rw [decide_eq_false (nI_nm1 hl)]
  simp
theorem sx_dn {σ : Sg} (W : Wf σ) {dn dn' : Nat → Bool} (hd : ∀ l, l < sL σ → dn l = dn' l) (bs ad : Nat → Nat → Nat) : ∀ n l j, l < sL σ → sx σ dn bs ad n l j = sx σ dn' bs ad n l j := by
  intro n
  induction n with
  | zero => intro l j _; rfl
  | succ n ih =>
    intro l j hl
    rw [sx_succ, sx_succ, hd l hl]
    cases dn' l with
    | true => rfl
    | false =>
      show gs _ _ ^^^ _ = gs _ _ ^^^ _
      congr 1
      refine gs_cong (fun i hi => ?_)
      congr 1
      by_cases e : sF σ l = 0
      · rw [if_pos e, if_pos e]
      · rw [if_neg e, if_neg e]
        have hi' : i < cnt σ (sF σ l) (sL σ) := by
          unfold ins at hi
          rwa [if_neg e] at hi
        exact ih _ j (isIn_ex hi').1
theorem vV_dn {σ : Sg} (W : Wf σ) {dn dn' : Nat → Bool} (hd : ∀ l, l < sL σ → dn l = dn' l) {l : Nat} (hl : l < sL σ) (j : Nat) : vV σ dn l j = vV σ dn' l j := sx_dn W hd _ _ _ l j hl
theorem vC_dn {σ : Sg} (W : Wf σ) {dn dn' : Nat → Bool} (hd : ∀ l, l < sL σ → dn l = dn' l) {l : Nat} (hl : l < sL σ) (j : Nat) : vC σ dn l j = vC σ dn' l j := sx_dn W hd _ _ _ l j hl
theorem dnA_B {σ : Sg} (W : Wf σ) : ∀ l, l < sL σ → dnA σ (-1) (-1) l = sB σ l := fun l hl => dnA_m1 (by have := W.2.1; omega)
theorem cs_vector {σ : Sg} {M N : zM} (R : Rel σ M N) (x1 x2 : Int32) {post : Int32 → zM → Int32 → zM → Prop} (h : ∀ r σ' M' N', Rel σ' M' N' → post r M' r N') : pX5_vector M x1 x2 (fun r M1 => pX6_vector N x1 x2 (fun r' N1 => post r M1 r' N1)) := by
  have R0 := R
  obtain ⟨W, X, Y, A⟩ := R
  have hL := W.2.1
  have hH := W.2.2.1
  unfold pX5_vector pX6_vector pX5_vector_b22 pX6_vector_b22
  rcases ix3 x1 (n := sL σ) (by omega) with hx | ⟨l, hl, rfl⟩
  · exact sX2_isLine_f X hx (eq00 (sX6_isLine_f W Y hx (eq00 (h _ σ _ _ R0))))
  · refine sX2_isLine_t W X hl (ne10 ?_)
    rcases ix3 x2 (n := sH σ) (by omega) with hx | ⟨p, hp, rfl⟩
    · exact sX2_isPiece_f X hx (eq00' (sX6_isLine_t W Y hl (ne10 (sX6_isPiece_f W Y hx (eq00' (h _ σ _ _ R0))))))
    · refine sX2_isPiece_t W X hp (ne01 (sX2_spreadVectors W X (fun l hl => X.2.2.2.1 l (by omega)) (fun M' hK hv => ⟨vp_in_nI (by omega) (by decide), sX5_byteOf (by omega) ?_⟩)))
      rw [nI_clamp (by omega), hv l hl p (by omega)]
      refine sX6_isLine_t W Y hl (ne10 (sX6_isPiece_t W Y hp (ne01 (sX6_work W Y A (fun N' hK' hd => ?_)))))
      rw [ofs4, nI_clamp (by omega), (hd l hl).1 p (by omega), vV_dn W (dnA_B W) hl]
      exact ⟨vp_in_nI (by omega) (by decide), h _ σ _ _ (R0.K (hK.x (by decide)) hK'.m)⟩
theorem cs_carries {σ : Sg} {M N : zM} (R : Rel σ M N) (x1 : Int32) {post : Int64 → zM → Int64 → zM → Prop} (h : ∀ r σ' M' N', Rel σ' M' N' → post r M' r N') : pX5_carries M x1 (fun r M1 => pX6_carries N x1 (fun r' N1 => post r M1 r' N1)) := by
  have R0 := R
  obtain ⟨W, X, Y, A⟩ := R
  have hL := W.2.1
  unfold pX5_carries pX6_carries
  rcases ix3 x1 (n := sL σ) (by omega) with hx | ⟨l, hl, rfl⟩
  · exact sX2_isLine_f X hx (eq00' (sX6_isLine_f W Y hx (eq00' (h _ σ _ _ R0))))
  · refine sX2_isLine_t W X hl (ne01 (sX2_spreadBytes W X (fun M' hK hv => ⟨vp_in_nI (by omega) (by decide), ?_⟩)))
    refine sX6_isLine_t W Y hl (ne01 (sX6_work W Y A (fun N' hK' hd => ⟨vp_in_nI (by omega) (by decide), ?_⟩)))
    rw [nI_clamp (by omega)]
    have e : N'.2 34 l = M'.2 15 l := lb_ext (fun j hj => by rw [(hd l hl).2 j hj, hv l hl j hj, vC_dn W (dnA_B W) hl])
    rw [e]
    exact h _ σ _ _ (R0.K (hK.x (by decide)) hK'.m)
