/-! the state that both sides stand for -/
abbrev Sg : Type := (Nat × Nat × Nat) × (Nat → Int64) × (Nat → Bool) × ((Nat → Nat) × (Nat → Nat)) × (Nat → Bool) × (Nat → Bool) × (Nat → Int64) × (Nat → Nat)
def sR (σ : Sg) : Nat := σ.1.1
def sL (σ : Sg) : Nat := σ.1.2.1
def sH (σ : Sg) : Nat := σ.1.2.2
def sP (σ : Sg) : Nat → Int64 := σ.2.1
def sE (σ : Sg) : Nat → Bool := σ.2.2.1
def sF (σ : Sg) : Nat → Nat := σ.2.2.2.1.1
def sT (σ : Sg) : Nat → Nat := σ.2.2.2.1.2
def sK (σ : Sg) : Nat → Bool := σ.2.2.2.2.1
def sB (σ : Sg) : Nat → Bool := σ.2.2.2.2.2.1
def sN (σ : Sg) : Nat → Int64 := σ.2.2.2.2.2.2.1
def sA (σ : Sg) : Nat → Nat := σ.2.2.2.2.2.2.2
/-- lines that lead to r, among the first n -/
def cnt (σ : Sg) (r n : Nat) : Nat := fb_ct (fun l => sT σ l == r) n
def ins (σ : Sg) (l : Nat) : Nat := if sF σ l = 0 then sH σ else cnt σ (sF σ l) (sL σ)
/-- line l is the i-th that leads to r -/
def isIn (σ : Sg) (r i l : Nat) : Prop := l < sL σ ∧ sT σ l = r ∧ cnt σ r l = i
def Wf (σ : Sg) : Prop := (1 ≤ sR σ ∧ sR σ ≤ 12) ∧ sL σ ≤ 30 ∧ (1 ≤ sH σ ∧ sH σ ≤ 4) ∧ (∀ l, l < sL σ → sF σ l < sT σ l ∧ sT σ l < sR σ) ∧ (∀ k, sA σ k < 256) ∧ (∀ r, sE σ r = true → 0 < r ∧ r < sR σ) ∧ (∀ l, sB σ l = true → l < sL σ)
/-- the model's memory -/
def RM (σ : Sg) (N : zM) : Prop :=
  (N.1 21 1 = nI (sR σ) ∧ N.1 21 2 = nI (sL σ) ∧ N.1 21 3 = nI (sH σ)) ∧
  (∀ p, p < 4 → N.2 22 p = sP σ p) ∧
  (∀ r, r < 12 → N.1 23 r = bI (sE σ r)) ∧
  (∀ l, l < sL σ → N.1 24 l = nI (sF σ l) ∧ N.1 25 l = nI (sT σ l)) ∧
  (∀ l, l < 30 → N.1 26 l = bI (sK σ l) ∧ N.1 27 l = bI (sB σ l)) ∧
  (∀ l, l < 30 → N.2 28 l = sN σ l) ∧
  (∀ k, k < 900 → N.1 29 k = nI (sA σ k))
/-- the class's memory -/
def RX (σ : Sg) (M : zM) : Prop :=
  (M.1 1 0 = nI (sR σ) ∧ M.1 1 1 = nI (sL σ) ∧ M.1 1 2 = nI (sH σ)) ∧
  (∀ i, i < 32 → bt (M.1 1 3) i = sE σ i) ∧
  (∀ i, i < 30 → bt (M.1 1 4) i = sK σ i) ∧
  (∀ i, i < 32 → bt (M.1 1 5) i = sB σ i) ∧
  (∀ l, l < sL σ → M.1 6 l = nI (sF σ l) ∧ M.1 7 l = nI (sT σ l)) ∧
  (∀ l, l < 30 → M.2 8 l = sN σ l) ∧
  (∀ p, p < 4 → M.2 9 p = sP σ p) ∧
  (∀ k, k < 900 → M.1 10 k = nI (sA σ k)) ∧
  (∀ r i l, r < 12 → isIn σ r i l → M.1 11 (30 * r + i) = nI l) ∧
  (∀ r, r < 12 → M.1 12 r = nI (cnt σ r (sL σ))) ∧
  (∃ o : Nat → Nat, (∀ k, k < sL σ → M.1 13 k = nI (o k) ∧ o k < sL σ) ∧ (∀ i j, i < j → j < sL σ → o i ≠ o j) ∧ ∀ i j, i < j → j < sL σ → sF σ (o i) ≤ sF σ (o j))
def Al (N : zM) (a b : Int32) : Prop := N.1 21 17 = a ∧ N.1 21 18 = b
theorem cnt_le (σ : Sg) (r n : Nat) : cnt σ r n ≤ n := fb_ct_le _ n
theorem cnt_succ (σ : Sg) (r n : Nat) : cnt σ r (n + 1) = cnt σ r n + (if sT σ n = r then 1 else 0) := by
  unfold cnt
  rw [fb_ct_succ]
  by_cases h : sT σ n = r <;> simp [h]
theorem ins_le {σ : Sg} (W : Wf σ) (l : Nat) : ins σ l ≤ 30 := by
  unfold ins
  have h1 := W.2.1
  have h2 := W.2.2.1
  have h3 := cnt_le σ (sF σ l) (sL σ)
  split <;> omega
/-! what the small questions answer -/
theorem nI_lit1 (n : Nat) : nI n - 1 = nI n + (-1) := by rw [Int32.sub_eq_add_neg]
theorem nI_m1 {n : Nat} (h : n < 2 ^ 30) : (nI n - 1).toInt = (n : Int) - 1 := pk_sub_toInt (b := 1) h (by decide)
theorem sX6_in_t {x a b : Int32} {post : Int32 → Prop} (h1 : ¬ x < a) (h2 : ¬ b < x) (h : post 1) : pX6_in x a b post := by
  unfold pX6_in pX6_in_b15
  exact ⟨fun q => absurd q h1, fun _ => ⟨fun q => absurd q h2, fun _ => ⟨Or.inr rfl, h⟩⟩⟩
theorem sX6_in_f {x a b : Int32} {post : Int32 → Prop} (h1 : x < a ∨ b < x) (h : post 0) : pX6_in x a b post := by
  unfold pX6_in pX6_in_b14 pX6_in_b15
  exact ⟨fun _ => ⟨Or.inl rfl, h⟩, fun q => ⟨fun _ => ⟨Or.inl rfl, h⟩, fun q2 => absurd h1 (fun z => z.elim q q2)⟩⟩
theorem nI_nlt0 {j : Nat} (h : j < 2 ^ 31) : ¬ nI j < (0 : Int32) := nI_pos h
theorem nI_last {j n : Nat} (h : j < n) (hn : n < 2 ^ 30) : ¬ (nI n - 1 < nI j) := by
  rw [Int32.lt_iff_toInt_lt, nI_m1 hn, nI_toInt (by omega)]
  omega
theorem nI_past {x : Int32} {n : Nat} (h : nI n ≤ x) (hn : n < 2 ^ 30) : nI n - 1 < x := by
  rw [Int32.le_iff_toInt_le, nI_toInt (by omega)] at h
  rw [Int32.lt_iff_toInt_lt, nI_m1 hn]
  omega
theorem sX6_isRelay_t {σ : Sg} {N : zM} (W : Wf σ) (R : RM σ N) {j : Nat} (hj : j < sR σ) {post : Int32 → Prop} (h : post 1) : pX6_isRelay N (nI j) post := by
  unfold pX6_isRelay
  rw [R.1.1]
  have := W.1
  exact sX6_in_t (nI_pos (by omega)) (nI_last hj (by omega)) ⟨Or.inr rfl, h⟩
theorem sX6_isRelay_f {σ : Sg} {N : zM} (W : Wf σ) (R : RM σ N) {x : Int32} (hx : x < 0 ∨ nI (sR σ) ≤ x) {post : Int32 → Prop} (h : post 0) : pX6_isRelay N x post := by
  unfold pX6_isRelay
  rw [R.1.1]
  have := W.1
  exact sX6_in_f (hx.imp id (fun q => nI_past q (by omega))) ⟨Or.inl rfl, h⟩
theorem sX6_isLine_t {σ : Sg} {N : zM} (W : Wf σ) (R : RM σ N) {j : Nat} (hj : j < sL σ) {post : Int32 → Prop} (h : post 1) : pX6_isLine N (nI j) post := by
  unfold pX6_isLine
  rw [R.1.2.1]
  have := W.2.1
  exact sX6_in_t (nI_pos (by omega)) (nI_last hj (by omega)) ⟨Or.inr rfl, h⟩
theorem sX6_isLine_f {σ : Sg} {N : zM} (W : Wf σ) (R : RM σ N) {x : Int32} (hx : x < 0 ∨ nI (sL σ) ≤ x) {post : Int32 → Prop} (h : post 0) : pX6_isLine N x post := by
  unfold pX6_isLine
  rw [R.1.2.1]
  have := W.2.1
  exact sX6_in_f (hx.imp id (fun q => nI_past q (by omega))) ⟨Or.inl rfl, h⟩
theorem sX6_isPiece_t {σ : Sg} {N : zM} (W : Wf σ) (R : RM σ N) {j : Nat} (hj : j < sH σ) {post : Int32 → Prop} (h : post 1) : pX6_in (nI j) 0 (N.1 21 3 - 1) post := by
  rw [R.1.2.2]
  have := W.2.2.1
  exact sX6_in_t (nI_pos (by omega)) (nI_last hj (by omega)) h
theorem sX6_isPiece_f {σ : Sg} {N : zM} (W : Wf σ) (R : RM σ N) {x : Int32} (hx : x < 0 ∨ nI (sH σ) ≤ x) {post : Int32 → Prop} (h : post 0) : pX6_in x 0 (N.1 21 3 - 1) post := by
  rw [R.1.2.2]
  have := W.2.2.1
  exact sX6_in_f (hx.imp id (fun q => nI_past q (by omega))) h
theorem sX2_isRelay_t {σ : Sg} {M : zM} (W : Wf σ) (R : RX σ M) {j : Nat} (hj : j < sR σ) {post : Int32 → Prop} (h : post 1) : pX2_isRelay M (nI j) post := by
  unfold pX2_isRelay pX2_isRelay_b17
  rw [R.1.1]
  have := W.1
  exact ⟨fun q => absurd q (nI_pos (by omega)), fun _ => ⟨fun q => absurd q (nI_ge hj (by omega)), fun _ => ⟨Or.inr rfl, h⟩⟩⟩
theorem sX2_isRelay_f {σ : Sg} {M : zM} (R : RX σ M) {x : Int32} (hx : x < 0 ∨ nI (sR σ) ≤ x) {post : Int32 → Prop} (h : post 0) : pX2_isRelay M x post := by
  unfold pX2_isRelay pX2_isRelay_b16 pX2_isRelay_b17
  rw [R.1.1]
  exact ⟨fun _ => ⟨Or.inl rfl, h⟩, fun q => ⟨fun _ => ⟨Or.inl rfl, h⟩, fun q2 => absurd hx (fun z => z.elim q q2)⟩⟩
theorem sX2_isLine_t {σ : Sg} {M : zM} (W : Wf σ) (R : RX σ M) {j : Nat} (hj : j < sL σ) {post : Int32 → Prop} (h : post 1) : pX2_isLine M (nI j) post := by
  unfold pX2_isLine pX2_isLine_b17
  rw [R.1.2.1]
  have := W.2.1
  exact ⟨fun q => absurd q (nI_pos (by omega)), fun _ => ⟨fun q => absurd q (nI_ge hj (by omega)), fun _ => ⟨Or.inr rfl, h⟩⟩⟩
theorem sX2_isLine_f {σ : Sg} {M : zM} (R : RX σ M) {x : Int32} (hx : x < 0 ∨ nI (sL σ) ≤ x) {post : Int32 → Prop} (h : post 0) : pX2_isLine M x post := by
  unfold pX2_isLine pX2_isLine_b16 pX2_isLine_b17
  rw [R.1.2.1]
  exact ⟨fun _ => ⟨Or.inl rfl, h⟩, fun q => ⟨fun _ => ⟨Or.inl rfl, h⟩, fun q2 => absurd hx (fun z => z.elim q q2)⟩⟩
theorem sX2_isPiece_t {σ : Sg} {M : zM} (W : Wf σ) (R : RX σ M) {j : Nat} (hj : j < sH σ) {post : Int32 → Prop} (h : post 1) : pX2_isPiece M (nI j) post := by
  unfold pX2_isPiece pX2_isPiece_b17
  rw [R.1.2.2]
  have := W.2.2.1
  exact ⟨fun q => absurd q (nI_pos (by omega)), fun _ => ⟨fun q => absurd q (nI_ge hj (by omega)), fun _ => ⟨Or.inr rfl, h⟩⟩⟩
theorem sX2_isPiece_f {σ : Sg} {M : zM} (R : RX σ M) {x : Int32} (hx : x < 0 ∨ nI (sH σ) ≤ x) {post : Int32 → Prop} (h : post 0) : pX2_isPiece M x post := by
  unfold pX2_isPiece pX2_isPiece_b16 pX2_isPiece_b17
  rw [R.1.2.2]
  exact ⟨fun _ => ⟨Or.inl rfl, h⟩, fun q => ⟨fun _ => ⟨Or.inl rfl, h⟩, fun q2 => absurd hx (fun z => z.elim q q2)⟩⟩
theorem ix3 (x : Int32) {n : Nat} (hn : n < 2 ^ 31) : (x < 0 ∨ nI n ≤ x) ∨ ∃ j : Nat, j < n ∧ x = nI j := by
  rcases pk_ix x hn with h | h | h
  · exact Or.inl (Or.inl h)
  · exact Or.inl (Or.inr h)
  · exact Or.inr h
theorem sX2_insOf {σ : Sg} {M : zM} (W : Wf σ) (R : RX σ M) {l : Nat} (hl : l < sL σ) {post : Int32 → Prop} (h : post (nI (ins σ l))) : pX2_insOf M (nI l) post := by
  have hL := W.2.1
  have hR := W.1
  have hF := W.2.2.2.1 l hl
  unfold pX2_insOf pX2_insOf_b27
  rw [nI_clamp (by omega), (R.2.2.2.2.1 l hl).1, nI_clamp (by omega)]
  refine ⟨vp_in_nI (by omega) (by omega), fun q => ⟨vp_in_nI (by omega) (by omega), vp_in_nI (by omega) (by omega), ?_⟩, fun q => ?_⟩
  · have h0 : sF σ l ≠ 0 := fun e => q (by rw [e]; rfl)
    rw [R.2.2.2.2.2.2.2.2.2.1 _ (by omega)]
    unfold ins at h
    rwa [if_neg h0] at h
  · have h0 : sF σ l = 0 := (nI_eq (b := 0) (by omega) (by decide)).mp q
    rw [R.1.2.2]
    unfold ins at h
    rwa [if_pos h0] at h
theorem sX6_waysIn {σ : Sg} {N : zM} (W : Wf σ) (R : RM σ N) {r : Nat} (hr : r < 12) {post : Int32 → Prop} (h : post (nI (cnt σ r (sL σ)))) : pX6_waysIn N (nI r) post := by
  have hL := W.2.1
  unfold pX6_waysIn pX6_waysIn_L4
  refine ⟨fun n x1 x2 x3 => ∃ k, k ≤ sL σ ∧ n = sL σ - k ∧ x1 = nI r ∧ x2 = nI (cnt σ r k) ∧ x3 = nI k, ⟨sL σ, 0, by omega, rfl, rfl, rfl, rfl⟩, ?_⟩
  rintro n x1 x2 x3 ⟨k, hk, hn, rfl, rfl, rfl⟩
  unfold pX6_waysIn_b4 pX6_waysIn_b28
  rw [R.1.2.1]
  have e1 : (nI (sL σ) ≤ nI k) ↔ sL σ ≤ k := nI_leI (by omega) (by omega)
  refine ⟨fun q => ?_, fun q => ?_⟩
  · have : k = sL σ := by have := e1.mp q; omega
    rw [this]; exact h
  · have hk2 : k < sL σ := by
      rcases Nat.lt_or_ge k (sL σ) with z | z
      · exact z
      · exact absurd (e1.mpr z) q
    have hT := W.2.2.2.1 k hk2
    have hR := W.1
    rw [nI_clamp (by omega), (R.2.2.2.1 k hk2).2]
    have e2 : (nI (sT σ k) = nI r) ↔ sT σ k = r := nI_eq (by omega) (by omega)
    refine ⟨vp_in_nI (by omega) (by omega), fun q2 => ⟨sL σ - (k + 1), by omega, k + 1, by omega, rfl, rfl, ?_, nI_1 k⟩, fun q2 => ⟨sL σ - (k + 1), by omega, k + 1, by omega, rfl, rfl, ?_, nI_1 k⟩⟩
    · rw [cnt_succ, if_neg (fun z => q2 (e2.mpr z))]
      exact nI_add _ 0
    · rw [cnt_succ, if_pos (e2.mp q2)]
      exact nI_add _ 1
theorem sX6_ins {σ : Sg} {N : zM} (W : Wf σ) (R : RM σ N) {l : Nat} (hl : l < sL σ) {post : Int32 → Prop} (h : post (nI (ins σ l))) : pX6_ins N (nI l) post := by
  have hL := W.2.1
  have hR := W.1
  have hF := W.2.2.2.1 l hl
  unfold pX6_ins pX6_ins_b26
  rw [nI_clamp (by omega), (R.2.2.2.1 l hl).1]
  refine ⟨vp_in_nI (by omega) (by omega), fun q => ⟨vp_in_nI (by omega) (by omega), ?_⟩, fun q => ?_⟩
  · have h0 : sF σ l ≠ 0 := fun e => q (by rw [e]; rfl)
    refine sX6_waysIn W R (by omega) ?_
    unfold ins at h
    rwa [if_neg h0] at h
  · have h0 : sF σ l = 0 := (nI_eq (b := 0) (by omega) (by decide)).mp q
    rw [R.1.2.2]
    unfold ins at h
    rwa [if_pos h0] at h
