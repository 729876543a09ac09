/-! what an end lacks -/
def nul (h k : Nat) (V : Nat → Nat → Nat) (z : Nat → Nat) : Prop := ∀ i, i < k → gs (fun q => gm (V i q) (z q)) h = 0
theorem nul_u {h k : Nat} {V : Nat → Nat → Nat} {pv : Nat → Bool} {u c : Nat → Nat → Nat} (E : EL h k V pv u c) {z : Nat → Nat} (hz : nb z) : nul h k V z ↔ ∀ p, p < h → gs (fun q => gm (u p q) (z q)) h = 0 := by
  obtain ⟨⟨bu, bc, bV⟩, e1, e2, e3, e4, e5, e6, e7⟩ := E
  refine ⟨fun hn p hp => ?_, fun hn i hi => ?_⟩
  · have s1 : gs (fun q => gm (u p q) (z q)) h = gs (fun q => gs (fun i => gm (gm (c p i) (V i q)) (z q)) k) h := gs_cong (fun q hq => by rw [e4 p q hp hq, gs_mulr (hz q) (fun i _ => gm_lt (bc p i))])
    rw [s1, gs_swap]
    refine gs_zero (fun i hi => ?_)
    have s2 : gs (fun q => gm (gm (c p i) (V i q)) (z q)) h = gm (c p i) (gs (fun q => gm (V i q) (z q)) h) := by
      rw [gs_mull (bc p i) (fun q _ => gm_lt (bV i q))]
      exact gs_cong (fun q _ => gm_assoc (bc p i) (bV i q) (hz q))
    rw [s2, hn i hi, gm_zero (bc p i)]
  · have s1 : gs (fun q => gm (V i q) (z q)) h = gs (fun q => gs (fun p => gm (gm (V i p) (u p q)) (z q)) h) h := gs_cong (fun q hq => by rw [← gs_mulr (hz q) (fun p _ => gm_lt (bV i p)), ← e5 i q hi hq])
    rw [s1, gs_swap]
    refine gs_zero (fun p hp => ?_)
    have s2 : gs (fun q => gm (gm (V i p) (u p q)) (z q)) h = gm (V i p) (gs (fun q => gm (u p q) (z q)) h) := by
      rw [gs_mull (bV i p) (fun q _ => gm_lt (bu p q))]
      exact gs_cong (fun q _ => gm_assoc (bV i p) (bu p q) (hz q))
    rw [s2, hn p hp, gm_zero (bV i p)]
theorem gs_tail {f : Nat → Nat} {m : Nat} : ∀ {n : Nat}, m ≤ n → (∀ q, m ≤ q → q < n → f q = 0) → gs f n = gs f m
  | 0, hm, _ => by rw [show m = 0 by omega]
  | n + 1, hm, hz => by
    rcases (show m = n + 1 ∨ m ≤ n by omega) with e | e
    · rw [e]
    · rw [gs_succ, hz n e (by omega), Nat.xor_zero, gs_tail e (fun q h1 h2 => hz q h1 (by omega))]
theorem gs_put (f : Nat → Nat) {n c : Nat} (hc : c < n) : gs f n = gs (fun q => if q = c then 0 else f q) n ^^^ f c := by
  have : gs (fun q => if q = c then f c else 0) n = f c := by
    rw [gs_one hc (fun i _ hne => if_neg hne), if_pos rfl]
  rw [← this, ← gs_xor]
  refine gs_cong (fun q _ => ?_)
  by_cases e : q = c
  · rw [if_pos e, if_pos e, e, Nat.zero_xor]
  · rw [if_neg e, if_neg e, Nat.xor_zero]
theorem nul_det {h k : Nat} {V : Nat → Nat → Nat} {pv : Nat → Bool} {u c : Nat → Nat → Nat} (E : EL h k V pv u c) (T : tri h u) {y : Nat → Nat} (hy : nb y) (hn : nul h k V y) {p : Nat} (hp : p < h) (hv : pv p = true) : y p = gs (fun j => gm (u p j) (y j)) p := by
  have s := (nul_u E hy).mp hn p hp
  rw [gs_tail (m := p + 1) (by omega) (fun q h1 h2 => by rw [T p q (by omega) h2]; exact gm_zero' (hy q)), gs_succ, E.2.1 p p hp hp hv hv, if_pos rfl, gm_one' (hy p)] at s
  exact (x_eq s).symm
def zF (u : Nat → Nat → Nat) (t v q : Nat) : Nat := if q = t then v else gm (u q t) v
theorem zF_nb {u : Nat → Nat → Nat} (hu : ∀ p, nb (u p)) {t v : Nat} (hv : v < 256) : nb (zF u t v) := fun q => by
  unfold zF
  split
  · exact hv
  · exact gm_lt (hu q t)
theorem zF_nul {h k : Nat} {V : Nat → Nat → Nat} {pv : Nat → Bool} {u c : Nat → Nat → Nat} (E : EL h k V pv u c) {t v : Nat} (ht : t < h) (hpt : pv t = false) (hv : v < 256) : nul h k V (zF u t v) := by
  have bu := E.1.1
  refine (nul_u E (zF_nb bu hv)).mpr (fun p hp => ?_)
  have bz := zF_nb bu (t := t) hv
  cases hq : pv p with
  | false => exact gs_zero (fun q _ => by rw [(E.2.2.1 p hp hq).1 q]; exact gm_zero' (bz q))
  | true =>
    have hne : p ≠ t := fun e => by rw [e, hpt] at hq; cases hq
    rw [gs_put _ ht, gs_one hp (fun i hi hni => ?_), if_neg hne]
    · unfold zF
      rw [if_neg hne, if_pos rfl, E.2.1 p p hp hp hq hq, if_pos rfl, gm_one' (gm_lt (bu p t)), Nat.xor_self]
    · by_cases e : i = t
      · rw [if_pos e]
      · rw [if_neg e]
        cases hpi : pv i with
        | true => rw [EL_col E hp hi hpi (fun z => hni z.symm)]; exact gm_zero' (bz i)
        | false =>
          have : zF u t v i = 0 := by unfold zF; rw [if_neg e, (E.2.2.1 i hi hpi).1 t, gm_zero' hv]
          rw [this]; exact gm_zero (bu p i)
/-- the least numbers that tell what is lacked -/
def LK (h k : Nat) (V : Nat → Nat → Nat) (p : Nat) (z : Nat → Nat) : Prop := nb z ∧ nul h k V z ∧ z p = 1 ∧ ∀ c, c < h → c ≠ p → ∀ y, nb y → nul h k V y → y p = 1 → (∀ i, i < c → y i = z i) → z c ≤ y c
theorem LK_piv {h k : Nat} {V : Nat → Nat → Nat} {pv : Nat → Bool} {u c : Nat → Nat → Nat} (E : EL h k V pv u c) (T : tri h u) {y z : Nat → Nat} (hy : nb y) (hz : nb z) (ny : nul h k V y) (nz : nul h k V z) {p : Nat} (hp : p < h) (hv : pv p = true) (he : ∀ i, i < p → y i = z i) : z p ≤ y p := by
  rw [nul_det E T hy ny hp hv, nul_det E T hz nz hp hv]
  exact Nat.le_of_eq (gs_cong (fun i hi => by rw [he i hi]))
theorem LK_a {h k : Nat} {V : Nat → Nat → Nat} {pv : Nat → Bool} {u c : Nat → Nat → Nat} (E : EL h k V pv u c) (T : tri h u) {p : Nat} (hp : p < h) (hpp : pv p = false) : LK h k V p (zF u p 1) := by
  have bu := E.1.1
  have bz := zF_nb bu (t := p) (v := 1) (by omega)
  have nz := zF_nul E hp hpp (v := 1) (by omega)
  refine ⟨bz, nz, by unfold zF; rw [if_pos rfl], fun c hc hne y hy ny hyp he => ?_⟩
  cases hpc : pv c with
  | true => exact LK_piv E T hy bz ny nz hc hpc he
  | false =>
    have : zF u p 1 c = 0 := by unfold zF; rw [if_neg hne, (E.2.2.1 c hc hpc).1 p, gm_zero' (by omega)]
    omega
theorem LK_b {h k : Nat} {V : Nat → Nat → Nat} {pv : Nat → Bool} {u c : Nat → Nat → Nat} (E : EL h k V pv u c) (T : tri h u) {p t : Nat} (hp : p < h) (hpp : pv p = true) (ht : t < p) (hnz : u p t ≠ 0) (hl : ∀ q, t < q → q < p → u p q = 0) : LK h k V p (zF u t (gi (u p t))) := by
  have bu := E.1.1
  have hpt : pv t = false := by
    cases hq : pv t with
    | false => rfl
    | true => exact absurd (EL_col E hp (by omega) hq (by omega)) hnz
  have bz := zF_nb bu (t := t) (gi_lt (u p t))
  have nz := zF_nul E (by omega) hpt (gi_lt (u p t))
  refine ⟨bz, nz, by unfold zF; rw [if_neg (by omega), gm_gi (bu p t) hnz], fun c hc hne y hy ny hyp he => ?_⟩
  cases hpc : pv c with
  | true => exact LK_piv E T hy bz ny nz hc hpc he
  | false =>
    by_cases e : c = t
    · subst e
      have s := nul_det E T hy ny hp hpp
      rw [gs_tail (m := c + 1) (by omega) (fun q h1 h2 => by rw [hl q (by omega) h2]; exact gm_zero' (hy q)), gs_succ, gs_zero (fun j hj => ?_), Nat.zero_xor, hyp] at s
      · have := gi_unique (bu p c) (hy c) s.symm
        unfold zF
        rw [if_pos rfl, this]
        exact Nat.le_refl _
      · rw [he j hj]
        have : zF u c (gi (u p c)) j = 0 := by unfold zF; rw [if_neg (by omega), T j c hj hc, gm_zero' (gi_lt _)]
        rw [this]; exact gm_zero (bu p j)
    · have : zF u t (gi (u p t)) c = 0 := by unfold zF; rw [if_neg e, (E.2.2.1 c hc hpc).1 t, gm_zero' (gi_lt _)]
      omega
theorem sX3_lackNumber {σ : Sg} (W : Wf σ) {dn : Nat → Bool} {k : Nat} {f : Nat → Nat} {pv : Nat → Bool} {u : Nat → Nat → Nat} {M : zM} (E : EX (sH σ) k (fun i => vV σ dn (f i)) pv u) (T : tri (sH σ) u) (hrow : ∀ p q, p < sH σ → q < 8 → lb (M.2 17 p) q = u p q) {p q : Nat} (hp : p < sH σ) (hq : q < sH σ) (hout : ¬ inSp (sH σ) k (fun i => vV σ dn (f i)) (eP p)) {post : Int32 → Prop}
    (h : ∀ z, LK (sH σ) k (fun i => vV σ dn (f i)) p z → post (nI (z q))) : pX3_lackNumber M (nI p) (nI q) post := by
  have hH := W.2.2.1
  have bu : ∀ p, nb (u p) := E.1.1.1
  have fin : ∀ t v, t < sH σ → v < 256 → LK (sH σ) k (fun i => vV σ dn (f i)) p (zF u t v) → pX3_lackNumber_b55 M post (nI q) (nI t) (nI v) := by
    intro t v ht hv hL
    unfold pX3_lackNumber_b55 pX3_lackNumber_b82
    rw [nI_clamp (n := q) (by omega)]
    have hz := h _ hL
    unfold zF at hz
    refine ⟨fun z => ⟨vp_in_nI (by omega) (by decide), sX5_byteOf (by omega) ?_⟩, fun z => ?_⟩
    · have hne : q ≠ t := fun e => z (by rw [e])
      rw [hrow q t hq (by omega)]
      rw [if_neg hne] at hz
      exact sX5_product (bu q t) hv hz
    · have he : q = t := (nI_eq (by omega) (by omega)).mp z
      rw [if_pos he] at hz
      exact hz
  unfold pX3_lackNumber pX3_lackNumber_b25
  rw [nI_clamp (n := p) (by omega), lg_cmp_eq]
  cases hpp : pv p with
  | false =>
    have h0 : M.2 17 p = 0 := lb_ext (fun j hj => by rw [hrow p j hp hj, (E.1.2.2.1 p hp hpp).1 j, lb_0])
    refine ⟨vp_in_nI (by omega) (by decide), fun z => absurd h0 z, fun _ => ⟨fun _ => ⟨fun z => absurd rfl z, fun _ => fin p 1 hp (by omega) (LK_a E.1 T hp hpp)⟩, fun z => absurd z (nI_nm1 (by omega))⟩⟩
  | true =>
    have h1 : u p p = 1 := by rw [E.1.2.1 p p hp hp hpp hpp, if_pos rfl]
    have h0 : M.2 17 p ≠ 0 := fun e => by
      have := hrow p p hp (by omega)
      rw [e, lb_0, h1] at this
      cases this
    refine ⟨vp_in_nI (by omega) (by decide), fun _ => ⟨vp_in_nI (by omega) (by decide), sX3_last (by omega) (fun hz => absurd ((EL_e E.1 hp).mpr (fun j hj => ?_)) hout) (fun t ht hnz hl => ⟨fun _ => ⟨fun _ => ⟨vp_in_nI (by omega) (by decide), sX5_byteOf (by omega) ?_⟩, fun z => absurd ((nI_eq (by omega) (by omega)).mp z) (by omega)⟩, fun z => absurd z (nI_nm1 (by omega))⟩)⟩, fun z => absurd z h0⟩
    · unfold eP
      rcases Nat.lt_trichotomy j p with z | z | z
      · rw [if_neg (by omega), ← hrow p j hp (by omega)]; exact hz j z
      · rw [if_pos z, z, h1]
      · rw [if_neg (by omega), T p j z hj]
    · rw [hrow p t hp (by omega)] at hnz ⊢
      exact sX5_inverseOf (bu p t) hnz (fin t _ (by omega) (gi_lt _) (LK_b E.1 T hp hpp ht hnz (fun j h3 h4 => by rw [← hrow p j hp (by omega)]; exact hl j h3 h4)))
/-! solving rows one by one -/
def solv (h n : Nat) (B : Nat → Nat → Nat) (y : Nat → Nat) : Prop := ∀ r, r < n → gs (fun q => gm (B r q) (y q)) h = B r 4
def GI (h n : Nat) (A : Nat → Nat → Nat) (c top : Nat) (B : Nat → Nat → Nat) : Prop :=
  (∀ r k, B r k < 256) ∧ (∀ y, nb y → (solv h n A y ↔ solv h n B y)) ∧ (∀ r q, top ≤ r → r < n → q < c → B r q = 0) ∧ (∀ y, nb y → ∃ y', nb y' ∧ (∀ q, c ≤ q → y' q = y q) ∧ ∀ r, r < top → gs (fun q => gm (B r q) (y' q)) h = B r 4) ∧ top ≤ n
theorem GI_0 {h n : Nat} {A : Nat → Nat → Nat} (hA : ∀ r k, A r k < 256) : GI h n A 0 0 A :=
  ⟨hA, fun _ _ => Iff.rfl, fun _ _ _ _ h => by omega, fun y hy => ⟨y, hy, fun _ _ => rfl, fun r hr => by omega⟩, Nat.zero_le _⟩
theorem GI_skip {h n c top : Nat} {A B : Nat → Nat → Nat} (G : GI h n A c top B) (hz : ∀ r, top ≤ r → r < n → B r c = 0) : GI h n A (c + 1) top B := by
  obtain ⟨g1, g2, g3, g4, g5⟩ := G
  refine ⟨g1, g2, fun r q h1 h2 h3 => ?_, fun y hy => ?_, g5⟩
  · rcases (show q < c ∨ q = c by omega) with e | e
    · exact g3 r q h1 h2 e
    · rw [e]; exact hz r h1 h2
  · obtain ⟨y', a1, a2, a3⟩ := g4 y hy
    exact ⟨y', a1, fun q hq => a2 q (by omega), a3⟩
def gSw (B : Nat → Nat → Nat) (x top r k : Nat) : Nat := if r = x then B top k else if r = top then B x k else B r k
def gEl (S : Nat → Nat → Nat) (top c r k : Nat) : Nat := S r k ^^^ gm (gm (gi (S top c)) (S r c)) (S top k)
def gNew (B : Nat → Nat → Nat) (x top c r k : Nat) : Nat := if top < r then gEl (gSw B x top) top c r k else gSw B x top r k
theorem GI_step {h n c top x : Nat} {A B : Nat → Nat → Nat} (G : GI h n A c top B) (hc : c < h) (hx1 : top ≤ x) (hx2 : x < n) (hnz : B x c ≠ 0) : GI h n A (c + 1) (top + 1) (gNew B x top c) := by
  obtain ⟨g1, g2, g3, g4, g5⟩ := G
  have bS : ∀ r k, gSw B x top r k < 256 := fun r k => by
    unfold gSw
    split
    · exact g1 _ _
    · split <;> exact g1 _ _
  have st : ∀ k, gSw B x top top k = B x k := fun k => by
    unfold gSw
    by_cases e : top = x
    · rw [if_pos e, e]
    · rw [if_neg e, if_pos rfl]
  have sx : ∀ k, gSw B x top x k = B top k := fun k => by unfold gSw; rw [if_pos rfl]
  have so : ∀ r k, r ≠ x → r ≠ top → gSw B x top r k = B r k := fun r k h1 h2 => by unfold gSw; rw [if_neg h1, if_neg h2]
  have bN : ∀ r k, gNew B x top c r k < 256 := fun r k => by
    unfold gNew gEl
    split
    · exact g_xor_lt (bS _ _) (gm_lt (gm_lt (gi_lt _)))
    · exact bS _ _
  have nt : ∀ k, gNew B x top c top k = B x k := fun k => by unfold gNew; rw [if_neg (by omega), st]
  have nlo : ∀ r k, r < top → gNew B x top c r k = B r k := fun r k hr => by unfold gNew; rw [if_neg (by omega), so r k (by omega) (by omega)]
  have e1 : ∀ y, solv h n B y ↔ solv h n (gSw B x top) y := fun y => by
    refine ⟨fun hs r hr => ?_, fun hs r hr => ?_⟩
    · by_cases a1 : r = x
      · subst a1; simp only [sx]; exact hs top (by omega)
      · by_cases a2 : r = top
        · subst a2; simp only [st]; exact hs x hx2
        · simp only [so r _ a1 a2]; exact hs r hr
    · by_cases a1 : r = x
      · subst a1; have := hs top (by omega); simp only [st] at this; exact this
      · by_cases a2 : r = top
        · subst a2; have := hs x hx2; simp only [sx] at this; exact this
        · have := hs r hr; simp only [so r _ a1 a2] at this; exact this
  have hg : ∀ r, gm (gi (gSw B x top top c)) (gSw B x top r c) < 256 := fun r => gm_lt (gi_lt _)
  have e2 : ∀ y, nb y → ∀ r, gs (fun q => gm (gEl (gSw B x top) top c r q) (y q)) h = gs (fun q => gm (gSw B x top r q) (y q)) h ^^^ gm (gm (gi (gSw B x top top c)) (gSw B x top r c)) (gs (fun q => gm (gSw B x top top q) (y q)) h) := fun y hy r => by
    rw [gs_mull (hg r) (fun q _ => gm_lt (bS _ _)), ← gs_xor]
    refine gs_cong (fun q _ => ?_)
    unfold gEl
    rw [gm_xor _ (bS _ _) (gm_lt (hg r)), gm_assoc (hg r) (bS _ _) (hy q)]
  have e3 : ∀ y, nb y → (solv h n (gSw B x top) y ↔ solv h n (gNew B x top c) y) := fun y hy => by
    refine ⟨fun hs r hr => ?_, fun hs r hr => ?_⟩
    · by_cases a : top < r
      · have q1 : ∀ k, gNew B x top c r k = gEl (gSw B x top) top c r k := fun k => if_pos a
        simp only [q1]
        rw [e2 y hy r, hs r hr, hs top (by omega)]
        rfl
      · have q1 : ∀ k, gNew B x top c r k = gSw B x top r k := fun k => if_neg a
        simp only [q1]
        exact hs r hr
    · have ht := hs top (by omega)
      have q0 : ∀ k, gNew B x top c top k = gSw B x top top k := fun k => if_neg (by omega)
      simp only [q0] at ht
      by_cases a : top < r
      · have hr' := hs r hr
        have q1 : ∀ k, gNew B x top c r k = gEl (gSw B x top) top c r k := fun k => if_pos a
        simp only [q1] at hr'
        rw [e2 y hy r, ht] at hr'
        have w : gEl (gSw B x top) top c r 4 = gSw B x top r 4 ^^^ gm (gm (gi (gSw B x top top c)) (gSw B x top r c)) (gSw B x top top 4) := rfl
        rw [w] at hr'
        have z := congrArg (fun t => t ^^^ gm (gm (gi (gSw B x top top c)) (gSw B x top r c)) (gSw B x top top 4)) hr'
        simp only [Nat.xor_assoc, Nat.xor_self, Nat.xor_zero] at z
        exact z
      · have hr' := hs r hr
        have q1 : ∀ k, gNew B x top c r k = gSw B x top r k := fun k => if_neg a
        simp only [q1] at hr'
        exact hr'
  have zS : ∀ r q, top ≤ r → r < n → q < c → gSw B x top r q = 0 := fun r q h1 h2 h3 => by
    unfold gSw
    split
    · exact g3 top q (Nat.le_refl _) (by omega) h3
    · split
      · exact g3 x q hx1 hx2 h3
      · exact g3 r q h1 h2 h3
  have hnz' : gSw B x top top c ≠ 0 := by rw [st]; exact hnz
  refine ⟨bN, fun y hy => (g2 y hy).trans ((e1 y).trans (e3 y hy)), fun r q h1 h2 h3 => ?_, fun y hy => ?_, by omega⟩
  · have q1 : gNew B x top c r q = gEl (gSw B x top) top c r q := if_pos (by omega)
    rw [q1]
    unfold gEl
    rcases (show q < c ∨ q = c by omega) with e | e
    · rw [zS r q (by omega) h2 e, zS top q (Nat.le_refl _) (by omega) e, gm_zero (hg r)]
      rfl
    · rw [e, gm_comm (gi_lt _) (bS r c), gm_assoc (bS r c) (gi_lt _) (bS top c), gm_gi' (bS top c) hnz', gm_one (bS r c), Nat.xor_self]
  · let w := gs (fun q => if q = c then 0 else gm (B x q) (y q)) h
    let y1 : Nat → Nat := fun q => if q = c then gm (gi (B x c)) (B x 4 ^^^ w) else y q
    have by1 : nb y1 := fun q => by
      show (if q = c then _ else _) < 256
      split
      · exact gm_lt (gi_lt _)
      · exact hy q
    have bw : w < 256 := gs_lt (fun q _ => by
      show (if q = c then 0 else gm (B x q) (y q)) < 256
      split
      · omega
      · exact gm_lt (g1 _ _))
    obtain ⟨y', a1, a2, a3⟩ := g4 y1 by1
    refine ⟨y', a1, fun q hq => ?_, fun r hr => ?_⟩
    · rw [a2 q (by omega)]
      show (if q = c then _ else y q) = y q
      rw [if_neg (by omega)]
    · rcases (show r < top ∨ r = top by omega) with e | e
      · simp only [nlo r _ e]; exact a3 r e
      · subst e
        simp only [nt]
        have s1 : gs (fun q => gm (B x q) (y' q)) h = gs (fun q => gm (B x q) (y1 q)) h := gs_cong (fun q _ => by
          rcases Nat.lt_or_ge q c with z | z
          · rw [g3 x q hx1 hx2 z, gm_zero' (a1 q), gm_zero' (by1 q)]
          · rw [a2 q z])
        have s2 : gs (fun q => if q = c then 0 else gm (B x q) (y1 q)) h = w := gs_cong (fun q _ => by
          by_cases z : q = c
          · rw [if_pos z, if_pos z]
          · rw [if_neg z, if_neg z]
            show gm (B x q) (if q = c then _ else y q) = _
            rw [if_neg z])
        have s3 : y1 c = gm (gi (B x c)) (B x 4 ^^^ w) := if_pos rfl
        rw [s1, gs_put _ hc, s2, s3, ← gm_assoc (g1 _ _) (gi_lt _) (g_xor_lt (g1 _ _) bw), gm_gi (g1 _ _) hnz, gm_one' (g_xor_lt (g1 _ _) bw), Nat.xor_comm (B x 4) w, ← Nat.xor_assoc, Nat.xor_self, Nat.zero_xor]
theorem GI_end {h n top : Nat} {A B : Nat → Nat → Nat} (G : GI h n A h top B) : (∀ r, top ≤ r → r < n → B r 4 = 0) ↔ ∃ y, nb y ∧ solv h n A y := by
  obtain ⟨g1, g2, g3, g4, g5⟩ := G
  refine ⟨fun hz => ?_, fun ⟨y, hy, hs⟩ r h1 h2 => ?_⟩
  · obtain ⟨y', a1, a2, a3⟩ := g4 (fun _ => 0) (fun _ => by show (0 : Nat) < 256; omega)
    refine ⟨y', a1, (g2 y' a1).mpr (fun r hr => ?_)⟩
    rcases Nat.lt_or_ge r top with e | e
    · exact a3 r e
    · rw [hz r e hr]
      exact gs_zero (fun q hq => by rw [g3 r q e hr hq]; exact gm_zero' (a1 q))
  · rw [← (g2 y hy).mp hs r h2]
    exact gs_zero (fun q hq => by rw [g3 r q h1 h2 hq]; exact gm_zero' (hy q))
