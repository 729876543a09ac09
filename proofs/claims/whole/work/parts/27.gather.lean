/-! what is new: the class -/
theorem lp {n k : Nat} {P Q : Prop} (hn : n < 2 ^ 31) (hk : k ≤ n) (h1 : k = n → P) (h2 : k < n → Q) : (nI n ≤ nI k → P) ∧ (¬ nI n ≤ nI k → Q) := by
  refine ⟨fun q => h1 ?_, fun q => h2 ?_⟩
  · have := (nI_leI (a := n) (b := k) hn (by omega)).mp q
    omega
  · rcases Nat.lt_or_ge k n with z | z
    · exact z
    · exact absurd ((nI_leI hn (by omega)).mpr z) q
theorem nI_e0 {r : Nat} {P Q : Prop} (hr : r < 2 ^ 31) (h1 : r = 0 → P) (h2 : r ≠ 0 → Q) : (nI r = 0 → P) ∧ (¬ nI r = 0 → Q) :=
  ⟨fun q => h1 ((nI_eq (b := 0) hr (by decide)).mp q), fun q => h2 (fun e => q (by rw [e]; rfl))⟩
theorem nI_eI {r s : Nat} {P Q : Prop} (hr : r < 2 ^ 31) (hs : s < 2 ^ 31) (h1 : r = s → P) (h2 : r ≠ s → Q) : (nI r = nI s → P) ∧ (¬ nI r = nI s → Q) :=
  ⟨fun q => h1 ((nI_eq hr hs).mp q), fun q => h2 (fun e => q (by rw [e]))⟩
theorem sX3_last {x : Int64} {n : Nat} (hn : n ≤ 4) {post : Int32 → Prop} (h1 : (∀ q, q < n → lb x q = 0) → post (-1)) (h2 : ∀ t, t < n → lb x t ≠ 0 → (∀ q, t < q → q < n → lb x q = 0) → post (nI t)) : pX3_lastPieceIn x (nI n) post := by
  unfold pX3_lastPieceIn pX3_lastPieceIn_L4
  refine ⟨fun m x0 x3 => x = x0 ∧ m ≤ n ∧ x3 = nI m - 1 ∧ ∀ q, m ≤ q → q < n → lb x q = 0, ⟨n, rfl, by omega, rfl, fun q h3 h4 => by omega⟩, ?_⟩
  rintro m x0 x3 ⟨rfl, hm, rfl, hz⟩
  unfold pX3_lastPieceIn_b4
  rcases Nat.eq_zero_or_pos m with e | e
  · subst e
    refine ⟨fun _ => h1 (fun q hq => hz q (by omega) hq), fun q => absurd (by decide) q⟩
  · have e1 : nI m - 1 = nI (m - 1) := pk_sub (b := 1) e
    have hlt := lb_lt x (m - 1)
    rw [e1]
    refine ⟨fun q => absurd q (nI_pos (by omega)), fun _ => sX5_byteOf (by omega) (nI_e0 (by omega) (fun hb => ⟨m - 1, by omega, rfl, by omega, (nI_lit1 _).symm, fun q h3 h4 => ?_⟩) (fun hb => h2 _ (by omega) hb (fun q h3 h4 => hz q (by omega) h4)))⟩
    rcases (show q = m - 1 ∨ m ≤ q by omega) with z | z
    · rw [z]; exact hb
    · exact hz q z h4
def KS (M M' : zM) : Prop := (∀ c, c ≠ 3 → c ≠ 18 → M'.1 c = M.1 c) ∧ ∀ c, c ≠ 17 → M'.2 c = M.2 c
theorem KS.rf {M : zM} : KS M M := ⟨fun _ _ _ => rfl, fun _ _ => rfl⟩
theorem KS.tr {M M' M2 : zM} (h : KS M M') (h2 : KS M' M2) : KS M M2 := ⟨fun c h3 h4 => (h2.1 c h3 h4).trans (h.1 c h3 h4), fun c hc => (h2.2 c hc).trans (h.2 c hc)⟩
theorem KS.si {M : zM} {c k : Nat} {v : Int32} (hc : c = 3 ∨ c = 18) : KS M (zsi M c k v) := ⟨fun a h1 h2 => by
  have : a ≠ c := by omega
  simp [zsi, zri, this], fun _ _ => rfl⟩
theorem KS.sj {M : zM} {k : Nat} {v : Int64} : KS M (zsj M 17 k v) := ⟨fun _ _ _ => rfl, fun a ha => by simp [zsj, zrj, ha]⟩
theorem KS.rj {M : zM} {f : Nat → Int64} : KS M (zrj M 17 f) := ⟨fun _ _ _ => rfl, fun a ha => by simp [zrj, ha]⟩
theorem KS.x {M M' : zM} (h : KS M M') : KX M M' := ⟨fun a ha => h.1 a (by omega) (by omega), fun a ha => h.2 a (by omega)⟩
theorem zU_lb32 : ∀ k, k < 4 → ∀ q, q < 8 → lb (zU k <<< (((32 : Int32)).toInt64 &&& 63)) q = if q = 4 + k then 1 else 0 := by decide +kernel
def XS (σ : Sg) (dn : Nat → Bool) (k : Nat) (f : Nat → Nat) (M : zM) : Prop := ∃ pv u, EX (sH σ) k (fun i => vV σ dn (f i)) pv u ∧ tri (sH σ) u ∧ (∀ p q, p < sH σ → q < 8 → lb (M.2 17 p) q = u p q) ∧ M.1 3 3 = nI k ∧ ∀ i, i < k → M.1 18 i = nI (f i)
theorem EL_col {h k : Nat} {V : Nat → Nat → Nat} {pv : Nat → Bool} {u c : Nat → Nat → Nat} (E : EL h k V pv u c) {p q : Nat} (hp : p < h) (hq : q < h) (hv : pv q = true) (hne : p ≠ q) : u p q = 0 := by
  cases hpp : pv p with
  | false => exact (E.2.2.1 p hp hpp).1 q
  | true => rw [E.2.1 p q hp hq hpp hv, if_neg hne]
theorem sX3_take {σ : Sg} {M : zM} (W : Wf σ) (X : RX σ M) {dn : Nat → Bool} {l k : Nat} {f : Nat → Nat} (hl : l < sL σ) (hvec : ∀ j, j < 8 → lb (M.2 14 l) j = vV σ dn l j) (S : XS σ dn k f M) (hk : k < sH σ) {post : zM → Prop}
    (h : ∀ M', KS M M' → ((inSp (sH σ) k (fun i => vV σ dn (f i)) (vV σ dn l) ∧ XS σ dn k f M') ∨ (¬ inSp (sH σ) k (fun i => vV σ dn (f i)) (vV σ dn l) ∧ XS σ dn (k + 1) (fun i => if i = k then l else f i) M')) → post M') : pX3_take M (nI l) post := by
  have S0 := S
  obtain ⟨pv, u, E, T, hrow, hsz, hnew⟩ := S
  have hL := W.2.1
  have hH := W.2.2.1
  have bu : ∀ p, nb (u p) := E.1.1.1
  have bv := vX_nb W dn l k
  unfold pX3_take
  rw [hsz, nI_clamp (n := l) (by omega), nI_clamp (n := k) (by omega)]
  refine ⟨vp_in_nI (by omega) (by decide), vp_in_nI (by omega) (by decide), ?_⟩
  have h0 : ∀ q, q < 8 → lb (M.2 14 l ||| (zU k <<< (((32 : Int32)).toInt64 &&& 63))) q = vX σ dn l k q := by
    intro q hq
    rw [lb_or, hvec q hq, zU_lb32 k (by omega) q hq]
    unfold vX
    by_cases e : q < 4
    · rw [if_pos e, if_neg (by omega), Nat.or_zero]
    · rw [if_neg e, vV_zero W dn (by omega), Nat.zero_or]
  unfold pX3_take_L25
  refine ⟨fun n x1 x2 x4 M1 => ∃ p, p ≤ sH σ ∧ n = sH σ - p ∧ x1 = nI l ∧ x4 = nI p ∧ M1 = M ∧ ∀ q, q < 8 → lb x2 q = vX σ dn l k q ^^^ gs (fun p' => gm (vX σ dn l k p') (u p' q)) p, ⟨sH σ, 0, by omega, rfl, rfl, rfl, rfl, fun q hq => by rw [h0 q hq]; exact (Nat.xor_zero _).symm⟩, ?_⟩
  rintro n x1 x2 x4 M1 ⟨p, hp, hn, rfl, rfl, rfl, hv⟩
  unfold pX3_take_b25
  rw [X.1.2.2]
  refine lp (by omega) hp (fun e => ?_) (fun hp2 => ?_)
  · subst e
    have hw : ∀ q, q < 8 → lb x2 q = rsd (sH σ) u (vX σ dn l k) q := hv
    have bw : nb (rsd (sH σ) u (vX σ dn l k)) := rsd_nb bv
    refine sX3_last (by omega) (fun hz => ⟨fun q => absurd rfl q, fun _ => h _ KS.rf (Or.inl ⟨(EX_in W E k).mp (fun q hq => by rw [← hw q (by omega)]; exact hz q hq), S0⟩)⟩) (fun t ht hnz hlast => ⟨fun _ => ?_, fun q => absurd q (nI_nm1 (by omega))⟩)
    refine sX5_byteOf (by omega) ?_
    rw [hw t (by omega)] at hnz ⊢
    have E' := EX_new W E ht hnz
    have hout : ¬ inSp (sH σ) k (fun i => vV σ dn (f i)) (vV σ dn l) := fun q => hnz ((EX_in W E k).mpr q t ht)
    have T' : tri (sH σ) (elU u t (rsd (sH σ) u (vX σ dn l k))) := tri_step bu T bw (fun q h3 h4 => by rw [← hw q (by omega)]; exact hlast q h3 h4) ht
    have hpt : pv t = false := by
      cases hq : pv t with
      | false => rfl
      | true => exact absurd (EL_piv E.1 bv ht hq) hnz
    have hut : ∀ q, u t q = 0 := (E.1.2.2.1 t ht hpt).1
    generalize hwd : rsd (sH σ) u (vX σ dn l k) = w at *
    refine sX5_inverseOf (bw t) hnz (sX5_scaled (gi_lt _) (fun y hy => ?_))
    have hy' : ∀ q, q < 8 → lb y q = gm (gi (w t)) (w q) := fun q hq => by rw [hy q hq, hw q hq, gm_comm (bw q) (gi_lt _)]
    unfold pX3_take_L99
    refine ⟨fun n x1 x2 x4 x5 M2 => ∃ p, p ≤ sH σ ∧ n = sH σ - p ∧ x1 = nI l ∧ x2 = y ∧ x4 = nI t ∧ x5 = nI p ∧ KS M1 M2 ∧ M2.1 = M1.1 ∧ ∀ p' q, p' < sH σ → q < 8 → lb (M2.2 17 p') q = if p' < p then u p' q ^^^ gm (u p' t) (gm (gi (w t)) (w q)) else u p' q, ⟨sH σ, 0, by omega, rfl, rfl, rfl, rfl, rfl, KS.rf, rfl, fun p' q h3 h4 => by rw [if_neg (by omega)]; exact hrow p' q h3 h4⟩, ?_⟩
    rintro n x1 x2' x4 x5 M2 ⟨p, hp, hn, rfl, rfl, rfl, rfl, hK, hK1, hv2⟩
    unfold pX3_take_b99
    rw [hK1, X.1.2.2]
    refine lp (by omega) hp (fun e => ?_) (fun hp2 => ?_)
    · subst e
      have hsz2 : (zsj M2 17 t x2').1 3 3 = nI k := by show M2.1 3 3 = _; rw [hK1]; exact hsz
      rw [nI_clamp (n := t) (by omega), hsz2, nI_clamp (n := k) (by omega)]
      refine ⟨vp_in_nI (by omega) (by decide), vp_in_nI (by omega) (by decide), h _ (((hK.tr KS.sj).tr (KS.si (Or.inr rfl))).tr (KS.si (Or.inl rfl))) (Or.inr ⟨hout, _, _, E', T', fun p q hp hq => ?_, ?_, fun i hi => ?_⟩)⟩
      · show lb (vp_updL (M2.2 17) t x2' p) q = _
        unfold elU
        by_cases e : p = t
        · subst e; rw [pk_uLs, hy' q hq, if_pos rfl]
        · rw [pk_uLn e, hv2 p q hp hq, if_pos hp, if_neg e]
      · show upd (M2.1 3) 3 (M2.1 3 3 + 1) 3 = _
        rw [pk_us, hK1, hsz, nI_1]
      · show upd (M2.1 18) k (nI l) i = nI (if i = k then l else f i)
        by_cases e : i = k
        · subst e; rw [pk_us, if_pos rfl]
        · rw [pk_un e, if_neg e, hK1]; exact hnew i (by omega)
    · rw [nI_clamp (n := p) (by omega)]
      refine ⟨vp_in_nI (by omega) (by decide), vp_in_nI (by omega) (by decide), sX5_byteOf (by omega) ?_⟩
      rw [hv2 p t hp2 (by omega), if_neg (by omega)]
      refine sX5_scaled (bu p t) (fun z hz => ⟨vp_in_nI (by omega) (by decide), sH σ - (p + 1), by omega, p + 1, by omega, rfl, rfl, rfl, rfl, nI_1 p, hK.tr KS.sj, hK1, fun p' q h3 h4 => ?_⟩)
      show lb (vp_updL (M2.2 17) p _ p') q = _
      by_cases e : p' = p
      · rw [e, pk_uLs, lb_xor, hv2 p q hp2 h4, if_neg (by omega), hz q h4, if_pos (by omega), hy' q h4, gm_comm (gm_lt (gi_lt _)) (bu p t)]
      · rw [pk_uLn e, hv2 p' q h3 h4]
        by_cases e2 : p' < p
        · rw [if_pos e2, if_pos (by omega)]
        · rw [if_neg e2, if_neg (by omega)]
  · rw [nI_clamp (n := p) (by omega)]
    refine ⟨vp_in_nI (by omega) (by decide), sX5_byteOf (by omega) (sX5_scaled (lb_lt _ _) (fun y hy => ⟨sH σ - (p + 1), by omega, p + 1, by omega, rfl, rfl, nI_1 p, rfl, fun q hq => ?_⟩))⟩
    rw [lb_xor, hv q hq, hy q hq, hrow p q hp2 hq, gs_succ, Nat.xor_assoc]
    congr 2
    cases hpp : pv p with
    | false => rw [(E.1.2.2.1 p hp2 hpp).1 q, gm_zero' (lb_lt _ _), gm_zero (bv p)]
    | true =>
      have : lb x2 p = vX σ dn l k p := by
        rw [hv p (by omega), gs_zero (fun p' hp' => by rw [EL_col E.1 (by omega) hp2 hpp (by omega)]; exact gm_zero (bv p')), Nat.xor_zero]
      rw [this, gm_comm (bu p q) (bv p)]
theorem sJ7_fill17 {M : zM} {v : Int64} {post : zM → Prop} (h : post (zrj M 17 (filJ v (M.2 17) 4))) : pJ7_fill_d0a16_17 M v post := by
  unfold pJ7_fill_d0a16_17 pJ7_fill_d0a16_17_L6
  refine ⟨fun n x1 x3 x4 M1 => ∃ k, k ≤ 4 ∧ n = 4 - k ∧ x1 = v ∧ x3 = nI k ∧ x4 = 4 ∧ M1 = zrj M 17 (filJ v (M.2 17) k), ⟨4, 0, by omega, rfl, rfl, rfl, rfl, ?_⟩, ?_⟩
  · have : filJ v (M.2 17) 0 = M.2 17 := by funext p; unfold filJ; rw [if_neg (by omega)]
    rw [this, zrj_self]
  · rintro n x1 x3 x4 M1 ⟨k, hk, hn, rfl, rfl, rfl, rfl⟩
    unfold pJ7_fill_d0a16_17_b6
    refine lp (n := 4) (by omega) hk (fun e => ?_) (fun hk4 => ?_)
    · subst e; exact h
    · refine ⟨vp_in_nI hk4 (by decide), 4 - (k + 1), by omega, k + 1, by omega, rfl, rfl, nI_1 k, rfl, ?_⟩
      rw [nI_clamp (by omega), zsj_zrj, filJ_succ]
theorem sX3_gather {σ : Sg} {M : zM} (W : Wf σ) (X : RX σ M) {dn : Nat → Bool} (hvec : ∀ l, l < sL σ → ∀ j, j < 8 → lb (M.2 14 l) j = vV σ dn l j) {r : Nat} (hr : r < 12) {post : Int32 → zM → Prop}
    (h : ∀ M', KS M M' → XS σ dn (frK σ dn r) (frF σ dn r) M' → post (nI (frK σ dn r)) M') : pX3_gather M (nI r) post := by
  have hL := W.2.1
  have hH := W.2.2.1
  have hc := cnt_le σ r (sL σ)
  unfold pX3_gather
  refine sJ7_fill17 ?_
  unfold pX3_gather_L15
  refine ⟨fun n x1 x2 M1 => ∃ i, i ≤ cnt σ r (sL σ) ∧ n = cnt σ r (sL σ) - i ∧ x1 = nI r ∧ x2 = nI i ∧ KS M M1 ∧ XS σ dn (fr σ dn r i).1 (fr σ dn r i).2 M1, ⟨cnt σ r (sL σ), 0, by omega, rfl, rfl, rfl, (KS.si (Or.inl rfl)).tr KS.rj, fun _ => false, fun _ _ => 0, EX_0 _ (fun i => vV_nb W dn _), fun _ _ _ _ => rfl, fun p q hp hq => ?_, ?_, fun i hi => ?_⟩, ?_⟩
  · show lb (filJ 0 _ 4 p) q = 0
    unfold filJ
    rw [if_pos (by omega), lb_0]
  · show upd (M.1 3) 3 0 3 = _
    rw [pk_us]; rfl
  · have : i < 0 := hi
    omega
  · rintro n x1 x2 M1 ⟨i, hi, hn, rfl, rfl, hK, S⟩
    have X1 := X.K hK.x
    have S0 := S
    obtain ⟨pv, u, E, T, hrow, hsz, hnew⟩ := S
    have hkh := EL_k E.1
    unfold pX3_gather_b15 pX3_gather_b65
    rw [nI_clamp (n := r) (by omega), X1.2.2.2.2.2.2.2.2.2.1 r hr, X1.1.2.2, hsz]
    refine ⟨vp_in_nI (by omega) (by decide), lp (by omega) hi (fun e => ?_) (fun hi2 => lp (by omega) hkh (fun e => ?_) (fun hk2 => ?_))⟩
    · subst e; exact h M1 hK S0
    · have hfull := fr_full W E e (cnt σ r (sL σ) - i)
      rw [show i + (cnt σ r (sL σ) - i) = cnt σ r (sL σ) by omega] at hfull
      rw [← hfull] at S0 ⊢
      exact h M1 hK S0
    · have hin := isIn_ex hi2
      have hlt := hin.1
      refine sX5_slot ⟨vp_in_nI (by omega) (by decide), ?_⟩
      rw [nI_clamp (by omega), X1.2.2.2.2.2.2.2.2.1 r i _ hr hin]
      refine sX3_take W X1 hin.1 (fun j hj => by rw [hK.2 14 (by decide)]; exact hvec _ hin.1 j hj) S0 hk2 (fun M2 hK2 hor => ⟨cnt σ r (sL σ) - (i + 1), by omega, i + 1, by omega, rfl, rfl, nI_1 i, hK.tr hK2, ?_⟩)
      rcases hor with ⟨hs, S2⟩ | ⟨hs, S2⟩
      · rw [fr_in hs]; exact S2
      · rw [fr_out hs]; exact S2
theorem sX3_rankNow {σ : Sg} {M : zM} (W : Wf σ) (X : RX σ M) {r : Nat} (hr : r < 12) {post : Int32 → zM → Prop}
    (h : ∀ M', KX M M' → XS σ (sB σ) (frK σ (sB σ) r) (frF σ (sB σ) r) M' → post (nI (frK σ (sB σ) r)) M') : pX3_rankNow M (nI r) post := by
  unfold pX3_rankNow
  exact sX2_spreadVectors W X (fun l hl => X.2.2.2.1 l (by omega)) (fun M' hK hv => sX3_gather W (X.K (hK.x (by decide))) hv hr (fun M2 hK2 S => h M2 ((hK.x (by decide)).tr hK2.x) S))
