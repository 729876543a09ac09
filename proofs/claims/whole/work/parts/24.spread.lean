/-! what lines say and carry -/
def linr (σ : Sg) (r i : Nat) : Nat → Nat
  | 0 => 0
  | n + 1 => if sT σ n = r ∧ cnt σ r n = i then n else linr σ r i n
def lin (σ : Sg) (r i : Nat) : Nat := linr σ r i (sL σ)
theorem isIn_one {σ : Sg} {r i l l' : Nat} (h : isIn σ r i l) (h' : isIn σ r i l') : l = l' := by
  have e : fb_ct (fun x => sT σ x == r) l = fb_ct (fun x => sT σ x == r) l' := h.2.2.trans h'.2.2.symm
  exact fb_ct_kth_one (p := fun x => sT σ x == r) (by simpa using h.2.1) (by simpa using h'.2.1) e
theorem linr_eq {σ : Sg} {r i l : Nat} (h1 : sT σ l = r) (h2 : cnt σ r l = i) : ∀ n, l < n → linr σ r i n = l
  | 0, hl => by omega
  | n + 1, hl => by
    show (if sT σ n = r ∧ cnt σ r n = i then n else linr σ r i n) = l
    by_cases e : n = l
    · subst e; rw [if_pos ⟨h1, h2⟩]
    · rw [if_neg (fun q => e (fb_ct_kth_one (p := fun x => sT σ x == r) (by simpa using q.1) (by simpa using h1) (q.2.trans h2.symm)))]
      exact linr_eq h1 h2 n (by omega)
theorem lin_eq {σ : Sg} {r i l : Nat} (h : isIn σ r i l) : lin σ r i = l := linr_eq h.2.1 h.2.2 _ h.1
theorem isIn_ex {σ : Sg} {r i : Nat} (h : i < cnt σ r (sL σ)) : isIn σ r i (lin σ r i) := by
  obtain ⟨l, h1, h2, h3⟩ := fb_ct_kth (p := fun x => sT σ x == r) h
  have hi : isIn σ r i l := ⟨h1, by simpa using h2, h3⟩
  rw [lin_eq hi]
  exact hi
def sx (σ : Sg) (dn : Nat → Bool) (bs ad : Nat → Nat → Nat) : Nat → Nat → Nat → Nat
  | 0, _, _ => 0
  | n + 1, l, j => if dn l then 0 else gs (fun i => gm (if sF σ l = 0 then bs i j else sx σ dn bs ad n (lin σ (sF σ l) i) j) (sA σ (30 * l + i))) (ins σ l) ^^^ ad l j
theorem sx_succ (σ : Sg) (dn : Nat → Bool) (bs ad : Nat → Nat → Nat) (n l j : Nat) : sx σ dn bs ad (n + 1) l j = if dn l then 0 else gs (fun i => gm (if sF σ l = 0 then bs i j else sx σ dn bs ad n (lin σ (sF σ l) i) j) (sA σ (30 * l + i))) (ins σ l) ^^^ ad l j := rfl
theorem sx_ge {σ : Sg} (W : Wf σ) (dn : Nat → Bool) (bs ad : Nat → Nat → Nat) : ∀ n m l j, l < sL σ → sF σ l < n → sF σ l < m → sx σ dn bs ad n l j = sx σ dn bs ad m l j := by
  intro n
  induction n with
  | zero => intro m l j _ h; omega
  | succ n ih =>
    intro m l j hl h1 h2
    obtain ⟨m', rfl⟩ : ∃ m', m = m' + 1 := ⟨m - 1, by omega⟩
    show (if dn l then 0 else _) = (if dn l then 0 else _)
    cases dn l with
    | true => rfl
    | false =>
      show gs _ _ ^^^ _ = gs _ _ ^^^ _
      congr 1
      refine gs_cong (fun i hi => ?_)
      congr 1
      by_cases e : sF σ l = 0
      · rw [if_pos e, if_pos e]
      · rw [if_neg e, if_neg e]
        have hi' : i < cnt σ (sF σ l) (sL σ) := by
          unfold ins at hi
          rwa [if_neg e] at hi
        have hin := isIn_ex hi'
        have hF := W.2.2.2.1 _ hin.1
        exact ih m' _ j hin.1 (by have := hin.2.1; omega) (by have := hin.2.1; omega)
def vv (σ : Sg) (dn : Nat → Bool) (bs ad : Nat → Nat → Nat) (l j : Nat) : Nat := sx σ dn bs ad (sR σ) l j
theorem vv_eq {σ : Sg} (W : Wf σ) (dn : Nat → Bool) (bs ad : Nat → Nat → Nat) {l : Nat} (hl : l < sL σ) (j : Nat) : vv σ dn bs ad l j = if dn l then 0 else gs (fun i => gm (if sF σ l = 0 then bs i j else vv σ dn bs ad (lin σ (sF σ l) i) j) (sA σ (30 * l + i))) (ins σ l) ^^^ ad l j := by
  have hR := W.1
  obtain ⟨n, hn⟩ : ∃ n, sR σ = n + 1 := ⟨sR σ - 1, by omega⟩
  unfold vv
  rw [hn, sx_succ]
  cases dn l with
  | true => rfl
  | false =>
    show gs _ _ ^^^ _ = gs _ _ ^^^ _
    congr 1
    refine gs_cong (fun i hi => ?_)
    congr 1
    by_cases e : sF σ l = 0
    · rw [if_pos e, if_pos e]
    · rw [if_neg e, if_neg e]
      have hi' : i < cnt σ (sF σ l) (sL σ) := by
        unfold ins at hi
        rwa [if_neg e] at hi
      have hin := isIn_ex hi'
      have hF := W.2.2.2.1 _ hin.1
      have hF2 := W.2.2.2.1 l hl
      exact sx_ge W dn bs ad n (n + 1) _ j hin.1 (by have := hin.2.1; omega) (by have := hin.2.1; omega)
theorem sx_lt {σ : Sg} (W : Wf σ) {dn : Nat → Bool} {bs ad : Nat → Nat → Nat} (hb : ∀ i j, bs i j < 256) (ha : ∀ l j, ad l j < 256) : ∀ n l j, sx σ dn bs ad n l j < 256 := by
  intro n
  induction n with
  | zero => intro l j; show (0 : Nat) < 256; omega
  | succ n ih =>
    intro l j
    show (if dn l then 0 else _) < 256
    split
    · omega
    · refine g_xor_lt (gs_lt (fun i _ => gm_lt ?_)) (ha l j)
      split
      · exact hb i j
      · exact ih _ _
theorem vv_lt {σ : Sg} (W : Wf σ) {dn : Nat → Bool} {bs ad : Nat → Nat → Nat} (hb : ∀ i j, bs i j < 256) (ha : ∀ l j, ad l j < 256) (l j : Nat) : vv σ dn bs ad l j < 256 := sx_lt W hb ha (sR σ) l j
/-- vectors -/
def bsV (i j : Nat) : Nat := if i = j then 1 else 0
def vV (σ : Sg) (dn : Nat → Bool) (l j : Nat) : Nat := vv σ dn bsV (fun _ _ => 0) l j
def bsC (σ : Sg) (i j : Nat) : Nat := lb (sP σ i) j
def adC (σ : Sg) (l j : Nat) : Nat := lb (sN σ l) j
def vC (σ : Sg) (dn : Nat → Bool) (l j : Nat) : Nat := vv σ dn (bsC σ) (adC σ) l j
theorem bsV_lt (i j : Nat) : bsV i j < 256 := by unfold bsV; split <;> omega
theorem vV_lt {σ : Sg} (W : Wf σ) (dn : Nat → Bool) (l j : Nat) : vV σ dn l j < 256 := vv_lt W bsV_lt (fun _ _ => by omega) l j
theorem vC_lt {σ : Sg} (W : Wf σ) (dn : Nat → Bool) (l j : Nat) : vC σ dn l j < 256 := vv_lt W (fun _ _ => lb_lt _ _) (fun _ _ => lb_lt _ _) l j
theorem sx_zero {σ : Sg} (W : Wf σ) (dn : Nat → Bool) {j : Nat} (hj : sH σ ≤ j) : ∀ n l, sx σ dn bsV (fun _ _ => 0) n l j = 0 := by
  intro n
  induction n with
  | zero => intro l; rfl
  | succ n ih =>
    intro l
    show (if dn l then 0 else _) = 0
    split
    · rfl
    · rw [Nat.xor_zero]
      refine gs_zero (fun i hi => ?_)
      by_cases e : sF σ l = 0
      · rw [if_pos e]
        have : i < sH σ := by
          unfold ins at hi
          rwa [if_pos e] at hi
        unfold bsV
        rw [if_neg (by omega)]
        exact gm_zero' (W.2.2.2.2.1 _)
      · rw [if_neg e, ih]
        exact gm_zero' (W.2.2.2.2.1 _)
theorem vV_zero {σ : Sg} (W : Wf σ) (dn : Nat → Bool) {j : Nat} (hj : sH σ ≤ j) (l : Nat) : vV σ dn l j = 0 := sx_zero W dn hj (sR σ) l
/-- the sum that a line takes of its ins -/
def mxs (σ : Sg) (bs t : Nat → Nat → Nat) (l j k : Nat) : Nat := gs (fun i => gm (if sF σ l = 0 then bs i j else t (lin σ (sF σ l) i) j) (sA σ (30 * l + i))) k
theorem zU_lb : ∀ i, i < 4 → ∀ j, j < 8 → lb (zU i) j = bsV i j := by decide +kernel
/-! the class -/
theorem sX2_mixedU {σ : Sg} {M : zM} (W : Wf σ) (X : RX σ M) {l : Nat} (hl : l < sL σ) {t : Nat → Nat → Nat} (ht : sF σ l ≠ 0 → ∀ i l', isIn σ (sF σ l) i l' → ∀ j, j < 8 → lb (M.2 14 l') j = t l' j) {post : Int64 → Prop} (h : ∀ y, (∀ j, j < 8 → lb y j = mxs σ bsV t l j (ins σ l)) → post y) : pX2_mixed_U_14 M (nI l) post := by
  have hL := W.2.1
  have hR := W.1
  have hF := W.2.2.2.1 l hl
  have hH := W.2.2.1
  have hi := ins_le W l
  unfold pX2_mixed_U_14
  rw [nI_clamp (by omega), (X.2.2.2.2.1 l hl).1]
  refine ⟨vp_in_nI (by omega) (by decide), sX2_insOf W X hl ?_⟩
  unfold pX2_mixed_U_14_L21
  refine ⟨fun n x1 x4 x6 x7 x8 => ∃ k, k ≤ ins σ l ∧ n = ins σ l - k ∧ x1 = nI l ∧ x6 = nI (sF σ l) ∧ x7 = nI (ins σ l) ∧ x8 = nI k ∧ ∀ j, j < 8 → lb x4 j = mxs σ bsV t l j k, ⟨ins σ l, 0, by omega, rfl, rfl, rfl, rfl, rfl, fun j _ => lb_0 j⟩, ?_⟩
  rintro n x1 x4 x6 x7 x8 ⟨k, hk, hn, rfl, rfl, rfl, rfl, hv⟩
  unfold pX2_mixed_U_14_b21
  have e1 : (nI (ins σ l) ≤ nI k) ↔ ins σ l ≤ k := nI_leI (by omega) (by omega)
  refine ⟨fun q => ?_, fun q => ?_⟩
  · have : k = ins σ l := by have := e1.mp q; omega
    subst this
    exact h x4 hv
  · have hk2 : k < ins σ l := by
      rcases Nat.lt_or_ge k (ins σ l) with z | z
      · exact z
      · exact absurd (e1.mpr z) q
    have hs : 30 * l + k < 900 := by omega
    have fin : ∀ row : Int64, (∀ j, j < 8 → lb row j = (if sF σ l = 0 then bsV k j else t (lin σ (sF σ l) k) j)) → pX2_mixed_U_14_b54 M post (fun x1 x4 x6 x7 x8 => ∃ k, k < n ∧ ∃ k_1, k_1 ≤ ins σ l ∧ k = ins σ l - k_1 ∧ x1 = nI l ∧ x6 = nI (sF σ l) ∧ x7 = nI (ins σ l) ∧ x8 = nI k_1 ∧ ∀ j, j < 8 → lb x4 j = mxs σ bsV t l j k_1) (nI l) x4 (nI (sF σ l)) (nI (ins σ l)) (nI k) row := by
      intro row hrow
      unfold pX2_mixed_U_14_b54
      refine sX5_slot ⟨vp_in_nI hs (by decide), ?_⟩
      rw [nI_clamp (by omega), X.2.2.2.2.2.2.2.1 _ hs]
      refine sX5_scaled (W.2.2.2.2.1 _) (fun y hy => ⟨ins σ l - (k + 1), by omega, k + 1, by omega, rfl, rfl, rfl, rfl, nI_1 k, fun j hj => ?_⟩)
      rw [lb_xor, hv j hj, hy j hj, hrow j hj]
      rfl
    refine ⟨fun q2 => ?_, fun q2 => ?_⟩
    · have h0 : sF σ l ≠ 0 := fun e => q2 (by rw [e]; rfl)
      have hk3 : k < cnt σ (sF σ l) (sL σ) := by
        have := hk2
        unfold ins at this
        rwa [if_neg h0] at this
      have hin := isIn_ex hk3
      refine sX5_slot ⟨vp_in_nI (by omega) (by decide), ?_⟩
      rw [nI_clamp (by omega), X.2.2.2.2.2.2.2.2.1 _ _ _ (by omega) hin]
      have hlt := hin.1
      refine ⟨vp_in_nI (by omega) (by decide), ?_⟩
      rw [nI_clamp (by omega)]
      refine fin _ (fun j hj => ?_)
      rw [if_neg h0]
      exact ht h0 k _ hin j hj
    · have h0 : sF σ l = 0 := (nI_eq (b := 0) (by omega) (by decide)).mp q2
      have hk3 : k < sH σ := by
        have := hk2
        unfold ins at this
        rwa [if_pos h0] at this
      rw [nI_clamp (by omega)]
      refine ⟨vp_in_nI (by omega) (by decide), fin _ (fun j hj => ?_)⟩
      rw [if_pos h0]
      exact zU_lb k (by omega) j hj
theorem sX2_mixedC {σ : Sg} {M : zM} (W : Wf σ) (X : RX σ M) {l : Nat} (hl : l < sL σ) {t : Nat → Nat → Nat} (ht : sF σ l ≠ 0 → ∀ i l', isIn σ (sF σ l) i l' → ∀ j, j < 8 → lb (M.2 15 l') j = t l' j) {post : Int64 → Prop} (h : ∀ y, (∀ j, j < 8 → lb y j = mxs σ (bsC σ) t l j (ins σ l)) → post y) : pX2_mixed_9_15 M (nI l) post := by
  have hL := W.2.1
  have hR := W.1
  have hF := W.2.2.2.1 l hl
  have hH := W.2.2.1
  have hi := ins_le W l
  unfold pX2_mixed_9_15
  rw [nI_clamp (by omega), (X.2.2.2.2.1 l hl).1]
  refine ⟨vp_in_nI (by omega) (by decide), sX2_insOf W X hl ?_⟩
  unfold pX2_mixed_9_15_L21
  refine ⟨fun n x1 x4 x6 x7 x8 => ∃ k, k ≤ ins σ l ∧ n = ins σ l - k ∧ x1 = nI l ∧ x6 = nI (sF σ l) ∧ x7 = nI (ins σ l) ∧ x8 = nI k ∧ ∀ j, j < 8 → lb x4 j = mxs σ (bsC σ) t l j k, ⟨ins σ l, 0, by omega, rfl, rfl, rfl, rfl, rfl, fun j _ => lb_0 j⟩, ?_⟩
  rintro n x1 x4 x6 x7 x8 ⟨k, hk, hn, rfl, rfl, rfl, rfl, hv⟩
  unfold pX2_mixed_9_15_b21
  have e1 : (nI (ins σ l) ≤ nI k) ↔ ins σ l ≤ k := nI_leI (by omega) (by omega)
  refine ⟨fun q => ?_, fun q => ?_⟩
  · have : k = ins σ l := by have := e1.mp q; omega
    subst this
    exact h x4 hv
  · have hk2 : k < ins σ l := by
      rcases Nat.lt_or_ge k (ins σ l) with z | z
      · exact z
      · exact absurd (e1.mpr z) q
    have hs : 30 * l + k < 900 := by omega
    have fin : ∀ row : Int64, (∀ j, j < 8 → lb row j = (if sF σ l = 0 then bsC σ k j else t (lin σ (sF σ l) k) j)) → pX2_mixed_9_15_b54 M post (fun x1 x4 x6 x7 x8 => ∃ k, k < n ∧ ∃ k_1, k_1 ≤ ins σ l ∧ k = ins σ l - k_1 ∧ x1 = nI l ∧ x6 = nI (sF σ l) ∧ x7 = nI (ins σ l) ∧ x8 = nI k_1 ∧ ∀ j, j < 8 → lb x4 j = mxs σ (bsC σ) t l j k_1) (nI l) x4 (nI (sF σ l)) (nI (ins σ l)) (nI k) row := by
      intro row hrow
      unfold pX2_mixed_9_15_b54
      refine sX5_slot ⟨vp_in_nI hs (by decide), ?_⟩
      rw [nI_clamp (by omega), X.2.2.2.2.2.2.2.1 _ hs]
      refine sX5_scaled (W.2.2.2.2.1 _) (fun y hy => ⟨ins σ l - (k + 1), by omega, k + 1, by omega, rfl, rfl, rfl, rfl, nI_1 k, fun j hj => ?_⟩)
      rw [lb_xor, hv j hj, hy j hj, hrow j hj]
      rfl
    refine ⟨fun q2 => ?_, fun q2 => ?_⟩
    · have h0 : sF σ l ≠ 0 := fun e => q2 (by rw [e]; rfl)
      have hk3 : k < cnt σ (sF σ l) (sL σ) := by
        have := hk2
        unfold ins at this
        rwa [if_neg h0] at this
      have hin := isIn_ex hk3
      refine sX5_slot ⟨vp_in_nI (by omega) (by decide), ?_⟩
      rw [nI_clamp (by omega), X.2.2.2.2.2.2.2.2.1 _ _ _ (by omega) hin]
      have hlt := hin.1
      refine ⟨vp_in_nI (by omega) (by decide), ?_⟩
      rw [nI_clamp (by omega)]
      refine fin _ (fun j hj => ?_)
      rw [if_neg h0]
      exact ht h0 k _ hin j hj
    · have h0 : sF σ l = 0 := (nI_eq (b := 0) (by omega) (by decide)).mp q2
      have hk3 : k < sH σ := by
        have := hk2
        unfold ins at this
        rwa [if_pos h0] at this
      rw [nI_clamp (by omega)]
      refine ⟨vp_in_nI (by omega) (by decide), fin _ (fun j hj => ?_)⟩
      rw [if_pos h0, X.2.2.2.2.2.2.1 k (by omega)]
      rfl
/-- what spreading leaves: only one row of longs is written -/
def KV (c : Nat) (M M' : zM) : Prop := M'.1 = M.1 ∧ ∀ a, a ≠ c → M'.2 a = M.2 a
theorem KV.rf {c : Nat} {M : zM} : KV c M M := ⟨rfl, fun _ _ => rfl⟩
theorem KV.tr {c : Nat} {M M' M2 : zM} (h : KV c M M') (h2 : KV c M' M2) : KV c M M2 := ⟨h2.1.trans h.1, fun a ha => (h2.2 a ha).trans (h.2 a ha)⟩
theorem KV.sj {c k : Nat} {v : Int64} {M : zM} : KV c M (zsj M c k v) := ⟨rfl, fun a ha => by simp [zsj, zrj, ha]⟩
theorem KV.x {c : Nat} {M M' : zM} (h : KV c M M') (hc : c ≠ 8 ∧ c ≠ 9) : KX M M' := ⟨fun a _ => by rw [h.1], fun a ha => h.2 a (fun e => by subst e; rcases ha with q | q; exact hc.1 q; exact hc.2 q)⟩
theorem order_before {σ : Sg} (W : Wf σ) {o : Nat → Nat} (h1 : ∀ k, k < sL σ → o k < sL σ) (h2 : ∀ i j, i < j → j < sL σ → o i ≠ o j) (h3 : ∀ i j, i < j → j < sL σ → sF σ (o i) ≤ sF σ (o j)) {k i l' : Nat} (hk : k < sL σ) (hin : isIn σ (sF σ (o k)) i l') : ∃ m, m < k ∧ o m = l' := by
  obtain ⟨m, hm, rfl⟩ := fb_onto h1 h2 hin.1
  have hF := W.2.2.2.1 _ hin.1
  have hT := hin.2.1
  refine ⟨m, ?_, rfl⟩
  rcases Nat.lt_trichotomy m k with z | z | z
  · exact z
  · subst z; omega
  · have := h3 k m z hm
    omega
theorem sX2_spreadVectors {σ : Sg} {M : zM} (W : Wf σ) (X : RX σ M) {s : Int32} {dn : Nat → Bool} (hs : ∀ l, l < 30 → bt s l = dn l) {post : zM → Prop} (h : ∀ M', KV 14 M M' → (∀ l, l < sL σ → ∀ j, j < 8 → lb (M'.2 14 l) j = vV σ dn l j) → post M') : pX2_spreadVectors M s post := by
  have hL := W.2.1
  obtain ⟨o, ho1, ho2, ho3⟩ := X.2.2.2.2.2.2.2.2.2.2
  unfold pX2_spreadVectors pX2_spreadVectors_L2
  refine ⟨fun n x1 x2 M1 => ∃ k, k ≤ sL σ ∧ n = sL σ - k ∧ x1 = s ∧ x2 = nI k ∧ KV 14 M M1 ∧ ∀ m, m < k → ∀ j, j < 8 → lb (M1.2 14 (o m)) j = vV σ dn (o m) j, ⟨sL σ, 0, by omega, rfl, rfl, rfl, KV.rf, fun m hm => by omega⟩, ?_⟩
  rintro n x1 x2 M1 ⟨k, hk, hn, rfl, rfl, hK, hv⟩
  have X1 := X.K (hK.x (by decide))
  unfold pX2_spreadVectors_b2 pX2_spreadVectors_b47
  rw [X1.1.2.1]
  have e1 : (nI (sL σ) ≤ nI k) ↔ sL σ ≤ k := nI_leI (by omega) (by omega)
  refine ⟨fun q => ?_, fun q => ?_⟩
  · have : k = sL σ := by have := e1.mp q; omega
    subst this
    refine h M1 hK (fun l hl j hj => ?_)
    obtain ⟨m, hm, rfl⟩ := fb_onto (fun k hk => (ho1 k hk).2) ho2 hl
    exact hv m hm j hj
  · have hk2 : k < sL σ := by
      rcases Nat.lt_or_ge k (sL σ) with z | z
      · exact z
      · exact absurd (e1.mpr z) q
    have hok := ho1 k hk2
    have h13 : M1.1 13 (nI k).toNatClampNeg = nI (o k) := by rw [nI_clamp (by omega), hK.1]; exact hok.1
    rw [h13, nI_clamp (n := o k) (by omega)]
    refine ⟨vp_in_nI (by omega) (by decide), sX5_flag (by omega) ?_⟩
    rw [hs _ (by omega)]
    have fin : ∀ y : Int64, (∀ j, j < 8 → lb y j = vV σ dn (o k) j) → vp_in (nI (o k)) 30 ∧ ∃ k_1, k_1 < n ∧ ∃ k_2, k_2 ≤ sL σ ∧ k_1 = sL σ - k_2 ∧ x1 = x1 ∧ nI k + 1 = nI k_2 ∧ KV 14 M (zsj M1 14 (o k) y) ∧ ∀ m, m < k_2 → ∀ j, j < 8 → lb ((zsj M1 14 (o k) y).2 14 (o m)) j = vV σ dn (o m) j := by
      intro y hy
      refine ⟨vp_in_nI (by omega) (by decide), sL σ - (k + 1), by omega, k + 1, by omega, rfl, rfl, nI_1 k, hK.tr KV.sj, fun m hm j hj => ?_⟩
      show lb (if o m = o k then y else M1.2 14 (o m)) j = _
      by_cases e : m = k
      · subst e; rw [if_pos rfl]; exact hy j hj
      · rw [if_neg (ho2 m k (by omega) hk2)]; exact hv m (by omega) j hj
    refine bI_e1 (fun hd => fin 0 (fun j _ => ?_)) (fun hd => sX2_mixedU W X1 hok.2 (t := vV σ dn) (fun h0 i l' hin j hj => ?_) (fun y hy => fin y (fun j hj => ?_)))
    · rw [lb_0]
      unfold vV
      rw [vv_eq W _ _ _ hok.2, hd]; rfl
    · obtain ⟨m, hm, rfl⟩ := order_before W (fun k hk => (ho1 k hk).2) ho2 ho3 hk2 hin
      exact hv m hm j hj
    · rw [hy j hj]
      show _ = vv σ dn bsV (fun _ _ => 0) (o k) j
      rw [vv_eq W _ _ _ hok.2, hd]
      show _ = gs _ _ ^^^ 0
      rw [Nat.xor_zero]
      rfl
theorem sX2_spreadBytes {σ : Sg} {M : zM} (W : Wf σ) (X : RX σ M) {post : zM → Prop} (h : ∀ M', KV 15 M M' → (∀ l, l < sL σ → ∀ j, j < 8 → lb (M'.2 15 l) j = vC σ (sB σ) l j) → post M') : pX2_spreadBytes M post := by
  have hL := W.2.1
  obtain ⟨o, ho1, ho2, ho3⟩ := X.2.2.2.2.2.2.2.2.2.2
  unfold pX2_spreadBytes pX2_spreadBytes_L2
  refine ⟨fun n x2 M1 => ∃ k, k ≤ sL σ ∧ n = sL σ - k ∧ x2 = nI k ∧ KV 15 M M1 ∧ ∀ m, m < k → ∀ j, j < 8 → lb (M1.2 15 (o m)) j = vC σ (sB σ) (o m) j, ⟨sL σ, 0, by omega, rfl, rfl, KV.rf, fun m hm => by omega⟩, ?_⟩
  rintro n x2 M1 ⟨k, hk, hn, rfl, hK, hv⟩
  have X1 := X.K (hK.x (by decide))
  unfold pX2_spreadBytes_b2 pX2_spreadBytes_b58
  rw [X1.1.2.1]
  have e1 : (nI (sL σ) ≤ nI k) ↔ sL σ ≤ k := nI_leI (by omega) (by omega)
  refine ⟨fun q => ?_, fun q => ?_⟩
  · have : k = sL σ := by have := e1.mp q; omega
    subst this
    refine h M1 hK (fun l hl j hj => ?_)
    obtain ⟨m, hm, rfl⟩ := fb_onto (fun k hk => (ho1 k hk).2) ho2 hl
    exact hv m hm j hj
  · have hk2 : k < sL σ := by
      rcases Nat.lt_or_ge k (sL σ) with z | z
      · exact z
      · exact absurd (e1.mpr z) q
    have hok := ho1 k hk2
    have h13 : M1.1 13 (nI k).toNatClampNeg = nI (o k) := by rw [nI_clamp (by omega), hK.1]; exact hok.1
    rw [h13, nI_clamp (n := o k) (by omega)]
    refine ⟨vp_in_nI (by omega) (by decide), sX5_flag (by omega) ?_⟩
    rw [X1.2.2.2.1 _ (by omega)]
    have fin : ∀ y : Int64, (∀ j, j < 8 → lb y j = vC σ (sB σ) (o k) j) → vp_in (nI (o k)) 30 ∧ ∃ k_1, k_1 < n ∧ ∃ k_2, k_2 ≤ sL σ ∧ k_1 = sL σ - k_2 ∧ nI k + 1 = nI k_2 ∧ KV 15 M (zsj M1 15 (o k) y) ∧ ∀ m, m < k_2 → ∀ j, j < 8 → lb ((zsj M1 15 (o k) y).2 15 (o m)) j = vC σ (sB σ) (o m) j := by
      intro y hy
      refine ⟨vp_in_nI (by omega) (by decide), sL σ - (k + 1), by omega, k + 1, by omega, rfl, nI_1 k, hK.tr KV.sj, fun m hm j hj => ?_⟩
      show lb (if o m = o k then y else M1.2 15 (o m)) j = _
      by_cases e : m = k
      · subst e; rw [if_pos rfl]; exact hy j hj
      · rw [if_neg (ho2 m k (by omega) hk2)]; exact hv m (by omega) j hj
    refine bI_e1 (fun hd => fin 0 (fun j _ => ?_)) (fun hd => sX2_mixedC W X1 hok.2 (t := vC σ (sB σ)) (fun h0 i l' hin j hj => ?_) (fun y hy => ⟨vp_in_nI (by omega) (by decide), fin _ (fun j hj => ?_)⟩))
    · rw [lb_0]
      unfold vC
      rw [vv_eq W _ _ _ hok.2, hd]; rfl
    · obtain ⟨m, hm, rfl⟩ := order_before W (fun k hk => (ho1 k hk).2) ho2 ho3 hk2 hin
      exact hv m hm j hj
    · rw [lb_xor, hy j hj, X1.2.2.2.2.2.1 _ (by omega)]
      show _ = vv σ (sB σ) (bsC σ) (adC σ) (o k) j
      rw [vv_eq W _ _ _ hok.2, hd]
      rfl
