/-! what is new among the vectors that lead to a relay -/
theorem EL_V {h k : Nat} {V V' : Nat → Nat → Nat} {pv : Nat → Bool} {u c : Nat → Nat → Nat} (E : EL h k V pv u c) (hb : ∀ i, nb (V' i)) (hV : ∀ i q, i < k → q < h → V' i q = V i q) : EL h k V' pv u c := by
  obtain ⟨⟨bu, bc, bV⟩, e1, e2, e3, e4, e5, e6, e7⟩ := E
  refine ⟨⟨bu, bc, hb⟩, e1, e2, e3, fun p q hp hq => ?_, fun i q hi hq => ?_, fun a ha hz i hi => ?_, e7⟩
  · rw [e4 p q hp hq]; exact gs_cong (fun i hi => by rw [hV i q hi hq])
  · rw [hV i q hi hq, e5 i q hi hq]; exact gs_cong (fun p hp => by rw [hV i p hi hp])
  · refine e6 a ha (fun q hq => ?_) i hi
    rw [← hz q hq]; exact gs_cong (fun i hi => by rw [hV i q hi hq])
theorem EL_0 (h : Nat) {V : Nat → Nat → Nat} (hb : ∀ i, nb (V i)) : EL h 0 V (fun _ => false) (fun _ _ => 0) (fun _ _ => 0) := by
  refine ⟨⟨fun _ _ => (by decide : (0 : Nat) < 256), fun _ _ => (by decide : (0 : Nat) < 256), hb⟩, fun p q _ _ hp _ => (by cases hp), fun p _ _ => ⟨fun _ => rfl, fun _ => rfl⟩, fun _ _ _ _ => rfl, fun p q _ _ => rfl, fun i q hi _ => by omega, fun a _ _ i hi => by omega, fb_ct_zero.mpr (fun _ _ => rfl)⟩
/-- rows with the numbers of the new vectors behind them, from place 4 on -/
def EX (h k : Nat) (V : Nat → Nat → Nat) (pv : Nat → Bool) (u : Nat → Nat → Nat) : Prop :=
  EL h k V pv u (fun p i => u p (4 + i)) ∧ ∀ p q, p < h → h ≤ q → q < 4 → u p q = 0
theorem EX_0 (h : Nat) {V : Nat → Nat → Nat} (hb : ∀ i, nb (V i)) : EX h 0 V (fun _ => false) (fun _ _ => 0) := ⟨EL_0 h hb, fun _ _ _ _ _ => rfl⟩
theorem EX_step {h k : Nat} {V V' : Nat → Nat → Nat} {pv : Nat → Bool} {u : Nat → Nat → Nat} (E : EX h k V pv u) {v : Nat → Nat} (hv : nb v) (h1 : ∀ i, v (4 + i) = if i = k then 1 else 0) (h0 : ∀ q, h ≤ q → q < 4 → v q = 0) {t : Nat} (ht : t < h) (hw : rsd h u v t ≠ 0) (hb : ∀ i, nb (V' i)) (hV : ∀ i q, i < k + 1 → q < h → V' i q = if i = k then v q else V i q) :
    EX h (k + 1) V' (fun p => if p = t then true else pv p) (elU u t (rsd h u v)) := by
  have E1 := EL_step E.1 hv ht hw
  have e : elC u (fun p i => u p (4 + i)) t (rsd h u v) (elW h k (fun p i => u p (4 + i)) v) = fun p i => elU u t (rsd h u v) p (4 + i) := by
    funext p i
    have : elW h k (fun p i => u p (4 + i)) v i = rsd h u v (4 + i) := by
      unfold elW rsd
      rw [h1 i]
    unfold elC elU
    rw [this]
  rw [e] at E1
  refine ⟨EL_V E1 hb (fun i q hi hq => ?_), fun p q hp hq hq4 => ?_⟩
  · rw [hV i q hi hq]
    by_cases z : i = k
    · rw [if_pos z, if_pos z]
    · rw [if_neg z, if_neg z]
  · have hz : rsd h u v q = 0 := by
      unfold rsd
      rw [h0 q hq hq4, gs_zero (fun p hp => by rw [E.2 p q hp hq hq4]; exact gm_zero (hv p))]
      rfl
    unfold elU
    rw [hz, gm_zero (gi_lt _), E.2 p q hp hq hq4, gm_zero (E.1.1.1 p t)]
    split <;> rfl
theorem EL_k {h k : Nat} {V : Nat → Nat → Nat} {pv : Nat → Bool} {u c : Nat → Nat → Nat} (E : EL h k V pv u c) : k ≤ h := by
  have := fb_ct_le pv h
  rw [E.2.2.2.2.2.2.2] at this
  exact this
theorem ct_all {p : Nat → Bool} : ∀ {n : Nat}, fb_ct p n = n → ∀ i, i < n → p i = true
  | 0, _, i, hi => by omega
  | n + 1, h, i, hi => by
    rw [fb_ct_succ] at h
    have := fb_ct_le p n
    cases hp : p n with
    | false => rw [hp] at h; simp at h; omega
    | true =>
      rw [hp] at h
      simp at h
      rcases (show i < n ∨ i = n by omega) with z | z
      · exact ct_all h i z
      · rw [z]; exact hp
theorem EL_full {h k : Nat} {V : Nat → Nat → Nat} {pv : Nat → Bool} {u c : Nat → Nat → Nat} (E : EL h k V pv u c) (hk : k = h) {v : Nat → Nat} (hv : nb v) : inSp h k V v := by
  refine (EL_in E hv).mp (fun q hq => EL_piv E hv hq ?_)
  have e7 := E.2.2.2.2.2.2.2
  rw [hk] at e7
  exact ct_all e7 q hq
/-- piece p alone -/
def eP (p q : Nat) : Nat := if q = p then 1 else 0
theorem eP_nb (p : Nat) : nb (eP p) := fun q => by unfold eP; split <;> omega
theorem rsd_e {h : Nat} {u : Nat → Nat → Nat} (hu : ∀ p, nb (u p)) {p : Nat} (hp : p < h) (q : Nat) : rsd h u (eP p) q = eP p q ^^^ u p q := by
  unfold rsd
  congr 1
  rw [gs_one hp (fun i hi hne => ?_)]
  · unfold eP; rw [if_pos rfl, gm_one' (hu p q)]
  · unfold eP; rw [if_neg hne, gm_zero' (hu i q)]
theorem EL_e {h k : Nat} {V : Nat → Nat → Nat} {pv : Nat → Bool} {u c : Nat → Nat → Nat} (E : EL h k V pv u c) {p : Nat} (hp : p < h) : inSp h k V (eP p) ↔ ∀ q, q < h → u p q = eP p q := by
  rw [← EL_in E (eP_nb p)]
  refine ⟨fun hz q hq => ?_, fun hz q hq => ?_⟩
  · have := hz q hq
    rw [rsd_e E.1.1 hp] at this
    exact (x_eq this).symm
  · rw [rsd_e E.1.1 hp, hz q hq, Nat.xor_self]
theorem EL_all {h k : Nat} {V : Nat → Nat → Nat} {pv : Nat → Bool} {u c : Nat → Nat → Nat} (E : EL h k V pv u c) : (∀ p, p < h → inSp h k V (eP p)) ↔ k = h := by
  refine ⟨fun ha => ?_, fun hk p _ => EL_full E hk (eP_nb p)⟩
  rw [← E.2.2.2.2.2.2.2]
  have hall : ∀ p, p < h → pv p = true := fun p hp => by
    cases hq : pv p with
    | true => rfl
    | false =>
      have h1 := (EL_e E hp).mp (ha p hp) p hp
      rw [(E.2.2.1 p hp hq).1 p] at h1
      unfold eP at h1
      rw [if_pos rfl] at h1
      cases h1
  have hc : ∀ n, n ≤ h → fb_ct pv n = n := fun n => by
    induction n with
    | zero => intro _; rfl
    | succ n ih => intro hn; rw [fb_ct_succ, ih (by omega), hall n (by omega)]; rfl
  exact hc h (Nat.le_refl h)
theorem EL_uniq {h k : Nat} {V : Nat → Nat → Nat} {pv pv' : Nat → Bool} {u u' c c' : Nat → Nat → Nat} (E : EL h k V pv u c) (E' : EL h k V pv' u' c') {p : Nat} (hp : p < h) (he : ∀ q, q < h → u p q = u' p q) : ∀ i, i < k → c p i = c' p i := by
  obtain ⟨⟨bu, bc, bV⟩, e1, e2, e3, e4, e5, e6, e7⟩ := E
  obtain ⟨⟨_, bc', _⟩, _, _, _, e4', _, _, _⟩ := E'
  intro i hi
  refine x_eq (e6 (fun i => c p i ^^^ c' p i) (fun i => g_xor_lt (bc p i) (bc' p i)) (fun q hq => ?_) i hi)
  have : gs (fun i => gm (c p i ^^^ c' p i) (V i q)) k = gs (fun i => gm (c p i) (V i q) ^^^ gm (c' p i) (V i q)) k := gs_cong (fun i _ => gm_xor _ (bc p i) (bc' p i))
  rw [this, gs_xor, ← e4 p q hp hq, ← e4' p q hp hq, he q hq, Nat.xor_self]
/-- the new lines to r, among the first n that lead there -/
noncomputable def fr (σ : Sg) (dn : Nat → Bool) (r : Nat) : Nat → Nat × (Nat → Nat)
  | 0 => (0, fun _ => 0)
  | n + 1 => @ite _ (inSp (sH σ) (fr σ dn r n).1 (fun i => vV σ dn ((fr σ dn r n).2 i)) (vV σ dn (lin σ r n))) (Classical.propDecidable _) (fr σ dn r n) ((fr σ dn r n).1 + 1, fun i => if i = (fr σ dn r n).1 then lin σ r n else (fr σ dn r n).2 i)
theorem fr_in {σ : Sg} {dn : Nat → Bool} {r n : Nat} (h : inSp (sH σ) (fr σ dn r n).1 (fun i => vV σ dn ((fr σ dn r n).2 i)) (vV σ dn (lin σ r n))) : fr σ dn r (n + 1) = fr σ dn r n := if_pos h
theorem fr_out {σ : Sg} {dn : Nat → Bool} {r n : Nat} (h : ¬ inSp (sH σ) (fr σ dn r n).1 (fun i => vV σ dn ((fr σ dn r n).2 i)) (vV σ dn (lin σ r n))) : fr σ dn r (n + 1) = ((fr σ dn r n).1 + 1, fun i => if i = (fr σ dn r n).1 then lin σ r n else (fr σ dn r n).2 i) := if_neg h
noncomputable def frK (σ : Sg) (dn : Nat → Bool) (r : Nat) : Nat := (fr σ dn r (cnt σ r (sL σ))).1
noncomputable def frF (σ : Sg) (dn : Nat → Bool) (r : Nat) : Nat → Nat := (fr σ dn r (cnt σ r (sL σ))).2
theorem fr_lt {σ : Sg} {dn : Nat → Bool} {r : Nat} : ∀ n, n ≤ cnt σ r (sL σ) → ∀ i, i < (fr σ dn r n).1 → (fr σ dn r n).2 i < sL σ
  | 0, _, i, hi => by have : i < 0 := hi; omega
  | n + 1, hn, i, hi => by
    have ih := fr_lt (σ := σ) (dn := dn) (r := r) n (by omega)
    by_cases h : inSp (sH σ) (fr σ dn r n).1 (fun i => vV σ dn ((fr σ dn r n).2 i)) (vV σ dn (lin σ r n))
    · rw [fr_in h] at hi ⊢; exact ih i hi
    · rw [fr_out h] at hi ⊢
      have hi' : i < (fr σ dn r n).1 + 1 := hi
      show (if i = (fr σ dn r n).1 then lin σ r n else (fr σ dn r n).2 i) < sL σ
      split
      · exact (isIn_ex (show n < cnt σ r (sL σ) by omega)).1
      · exact ih i (by omega)
theorem frF_lt {σ : Sg} {dn : Nat → Bool} {r i : Nat} (h : i < frK σ dn r) : frF σ dn r i < sL σ := fr_lt _ (Nat.le_refl _) i h
theorem vV_nb {σ : Sg} (W : Wf σ) (dn : Nat → Bool) (l : Nat) : nb (vV σ dn l) := fun j => vV_lt W dn l j
theorem fr_full {σ : Sg} (W : Wf σ) {dn : Nat → Bool} {r n : Nat} {pv : Nat → Bool} {u : Nat → Nat → Nat} (E : EX (sH σ) (fr σ dn r n).1 (fun i => vV σ dn ((fr σ dn r n).2 i)) pv u) (hk : (fr σ dn r n).1 = sH σ) : ∀ m, fr σ dn r (n + m) = fr σ dn r n
  | 0 => rfl
  | m + 1 => by
    have ih := fr_full W E hk m
    rw [show n + (m + 1) = (n + m) + 1 by omega]
    rw [fr_in, ih]
    rw [ih]
    exact EL_full E.1 hk (vV_nb W dn _)
/-- a line's vector, with the number of its own behind it -/
def vX (σ : Sg) (dn : Nat → Bool) (l k q : Nat) : Nat := if q < 4 then vV σ dn l q else if q = 4 + k then 1 else 0
theorem vX_nb {σ : Sg} (W : Wf σ) (dn : Nat → Bool) (l k : Nat) : nb (vX σ dn l k) := fun q => by
  unfold vX
  split
  · exact vV_lt W dn l q
  · split <;> omega
theorem vX_lo {σ : Sg} {dn : Nat → Bool} {l k q : Nat} (hq : q < 4) : vX σ dn l k q = vV σ dn l q := if_pos hq
theorem vX_hi {σ : Sg} {dn : Nat → Bool} {l k : Nat} (i : Nat) : vX σ dn l k (4 + i) = if i = k then 1 else 0 := by
  unfold vX
  rw [if_neg (by omega)]
  by_cases h : i = k
  · rw [if_pos h, if_pos (by omega)]
  · rw [if_neg h, if_neg (by omega)]
theorem inSp_lo {h k : Nat} {V : Nat → Nat → Nat} {v v' : Nat → Nat} (he : ∀ q, q < h → v q = v' q) : inSp h k V v ↔ inSp h k V v' :=
  ⟨fun ⟨a, ha, hs⟩ => ⟨a, ha, fun q hq => by rw [← he q hq]; exact hs q hq⟩, fun ⟨a, ha, hs⟩ => ⟨a, ha, fun q hq => by rw [he q hq]; exact hs q hq⟩⟩
theorem EX_in {σ : Sg} (W : Wf σ) {dn : Nat → Bool} {k l : Nat} {f : Nat → Nat} {pv : Nat → Bool} {u : Nat → Nat → Nat} (E : EX (sH σ) k (fun i => vV σ dn (f i)) pv u) (m : Nat) : (∀ q, q < sH σ → rsd (sH σ) u (vX σ dn l m) q = 0) ↔ inSp (sH σ) k (fun i => vV σ dn (f i)) (vV σ dn l) := by
  have hH := W.2.2.1
  rw [EL_in E.1 (vX_nb W dn l m)]
  exact inSp_lo (fun q hq => vX_lo (by omega))
theorem EX_new {σ : Sg} (W : Wf σ) {dn : Nat → Bool} {k l : Nat} {f : Nat → Nat} {pv : Nat → Bool} {u : Nat → Nat → Nat} (E : EX (sH σ) k (fun i => vV σ dn (f i)) pv u) {t : Nat} (ht : t < sH σ) (hw : rsd (sH σ) u (vX σ dn l k) t ≠ 0) :
    EX (sH σ) (k + 1) (fun i => vV σ dn (if i = k then l else f i)) (fun p => if p = t then true else pv p) (elU u t (rsd (sH σ) u (vX σ dn l k))) := by
  have hH := W.2.2.1
  refine EX_step E (vX_nb W dn l k) vX_hi (fun q hq hq4 => by rw [vX_lo hq4]; exact vV_zero W dn hq l) ht hw (fun i => vV_nb W dn _) (fun i q hi hq => ?_)
  by_cases e : i = k
  · rw [if_pos e, if_pos e, vX_lo (by omega)]
  · rw [if_neg e, if_neg e]
/-- rows end at their own place -/
def tri (h : Nat) (u : Nat → Nat → Nat) : Prop := ∀ p q, p < q → q < h → u p q = 0
theorem tri_step {h : Nat} {u : Nat → Nat → Nat} (hu : ∀ p, nb (u p)) (T : tri h u) {w : Nat → Nat} (hw : nb w) {t : Nat} (hl : ∀ q, t < q → q < h → w q = 0) (ht : t < h) : tri h (elU u t w) := by
  intro p q hpq hq
  unfold elU
  by_cases e : p = t
  · rw [if_pos e, hl q (by omega) hq, gm_zero (gi_lt _)]
  · rw [if_neg e, T p q hpq hq, Nat.zero_xor]
    rcases Nat.lt_or_ge t q with z | z
    · rw [hl q z hq, gm_zero (gi_lt _), gm_zero (hu p t)]
    · rw [T p t (by omega) ht, gm_zero' (gm_lt (gi_lt _))]
