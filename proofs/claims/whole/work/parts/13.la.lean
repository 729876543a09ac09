/-! sums over the field, and elimination -/
def gs (f : Nat → Nat) : Nat → Nat
  | 0 => 0
  | n + 1 => gs f n ^^^ f n
theorem gs_succ (f : Nat → Nat) (n : Nat) : gs f (n + 1) = gs f n ^^^ f n := rfl
theorem gs_lt {f : Nat → Nat} : ∀ {n : Nat}, (∀ i, i < n → f i < 256) → gs f n < 256
  | 0, _ => by show (0 : Nat) < 256; omega
  | n + 1, h => g_xor_lt (gs_lt (fun i hi => h i (by omega))) (h n (by omega))
theorem gs_cong {f g : Nat → Nat} : ∀ {n : Nat}, (∀ i, i < n → f i = g i) → gs f n = gs g n
  | 0, _ => rfl
  | n + 1, h => by
    show gs f n ^^^ f n = gs g n ^^^ g n
    rw [gs_cong (fun i hi => h i (by omega)), h n (by omega)]
theorem gs_xor (f g : Nat → Nat) : ∀ n, gs (fun i => f i ^^^ g i) n = gs f n ^^^ gs g n
  | 0 => by show (0 : Nat) = 0 ^^^ 0; rfl
  | n + 1 => by
    show gs (fun i => f i ^^^ g i) n ^^^ (f n ^^^ g n) = (gs f n ^^^ f n) ^^^ (gs g n ^^^ g n)
    rw [gs_xor f g n]
    ac_rfl
theorem gs_zero {f : Nat → Nat} : ∀ {n : Nat}, (∀ i, i < n → f i = 0) → gs f n = 0
  | 0, _ => rfl
  | n + 1, h => by
    show gs f n ^^^ f n = 0
    rw [gs_zero (fun i hi => h i (by omega)), h n (by omega)]
    rfl
theorem gs_mulr {f : Nat → Nat} {c : Nat} (hc : c < 256) : ∀ {n : Nat}, (∀ i, i < n → f i < 256) → gm (gs f n) c = gs (fun i => gm (f i) c) n
  | 0, _ => gm_zero' hc
  | n + 1, h => by
    show gm (gs f n ^^^ f n) c = gs (fun i => gm (f i) c) n ^^^ gm (f n) c
    rw [gm_xor c (gs_lt (fun i hi => h i (by omega))) (h n (by omega)), gs_mulr hc (fun i hi => h i (by omega))]
theorem gs_mull {f : Nat → Nat} {c n : Nat} (hc : c < 256) (h : ∀ i, i < n → f i < 256) : gm c (gs f n) = gs (fun i => gm c (f i)) n := by
  rw [gm_comm hc (gs_lt h), gs_mulr hc h]
  exact gs_cong (fun i hi => gm_comm (h i hi) hc)
theorem gs_one {f : Nat → Nat} {n k : Nat} (hk : k < n) (h : ∀ i, i < n → i ≠ k → f i = 0) : gs f n = f k := by
  induction n with
  | zero => omega
  | succ n ih =>
    show gs f n ^^^ f n = f k
    by_cases e : k = n
    · subst e
      rw [gs_zero (fun i hi => h i (by omega) (by omega)), Nat.zero_xor]
    · rw [ih (by omega) (fun i hi hne => h i (by omega) hne), h n (by omega) (fun q => e q.symm), Nat.xor_zero]
theorem gs_swap (f : Nat → Nat → Nat) (n : Nat) : ∀ m, gs (fun i => gs (fun j => f i j) n) m = gs (fun j => gs (fun i => f i j) m) n
  | 0 => by
    show (0 : Nat) = gs (fun _ => 0) n
    rw [gs_zero (fun _ _ => rfl)]
  | m + 1 => by
    show gs (fun i => gs (fun j => f i j) n) m ^^^ gs (fun j => f m j) n = gs (fun j => gs (fun i => f i j) m ^^^ f m j) n
    rw [gs_swap f n m, gs_xor]
theorem x_eq {a b : Nat} (h : a ^^^ b = 0) : a = b := by
  have e : (a ^^^ b) ^^^ b = 0 ^^^ b := by rw [h]
  rw [Nat.xor_assoc, Nat.xor_self, Nat.xor_zero, Nat.zero_xor] at e
  exact e
theorem x_mv {a b c : Nat} (h : a = b ^^^ c) : b = a ^^^ c := by rw [h, Nat.xor_assoc, Nat.xor_self, Nat.xor_zero]
/-- numbers below 256 -/
def nb (f : Nat → Nat) : Prop := ∀ i, f i < 256
theorem nb.gm {f : Nat → Nat} (h : nb f) (g : Nat → Nat) : nb (fun i => gm (f i) (g i)) := fun i => gm_lt (h i)
/-- v is laid together out of the first k of V -/
def inSp (h k : Nat) (V : Nat → Nat → Nat) (v : Nat → Nat) : Prop := ∃ a : Nat → Nat, nb a ∧ ∀ q, q < h → v q = gs (fun i => gm (a i) (V i q)) k
/-- an elimination: k new vectors V, pivots pv, rows u (0 where there is no pivot), and how often each new vector is in a row: c -/
def EL (h k : Nat) (V : Nat → Nat → Nat) (pv : Nat → Bool) (u c : Nat → Nat → Nat) : Prop :=
  ((∀ p, nb (u p)) ∧ (∀ p, nb (c p)) ∧ (∀ i, nb (V i))) ∧
  (∀ p q, p < h → q < h → pv p = true → pv q = true → u p q = if p = q then 1 else 0) ∧
  (∀ p, p < h → pv p = false → (∀ q, u p q = 0) ∧ (∀ i, c p i = 0)) ∧
  (∀ p i, p < h → k ≤ i → c p i = 0) ∧
  (∀ p q, p < h → q < h → u p q = gs (fun i => gm (c p i) (V i q)) k) ∧
  (∀ i q, i < k → q < h → V i q = gs (fun p => gm (V i p) (u p q)) h) ∧
  (∀ a : Nat → Nat, nb a → (∀ q, q < h → gs (fun i => gm (a i) (V i q)) k = 0) → ∀ i, i < k → a i = 0) ∧
  fb_ct pv h = k
/-- what is left of v -/
def rsd (h : Nat) (u : Nat → Nat → Nat) (v : Nat → Nat) (q : Nat) : Nat := v q ^^^ gs (fun p => gm (v p) (u p q)) h
theorem rsd_nb {h : Nat} {u : Nat → Nat → Nat} {v : Nat → Nat} (hv : nb v) : nb (rsd h u v) := fun q => g_xor_lt (hv q) (gs_lt (fun p _ => gm_lt (hv p)))
theorem EL_in {h k : Nat} {V : Nat → Nat → Nat} {pv : Nat → Bool} {u c : Nat → Nat → Nat} (E : EL h k V pv u c) {v : Nat → Nat} (hv : nb v) : (∀ q, q < h → rsd h u v q = 0) ↔ inSp h k V v := by
  obtain ⟨⟨bu, bc, bV⟩, e1, e2, e3, e4, e5, e6, e7⟩ := E
  constructor
  · intro hz
    refine ⟨fun i => gs (fun p => gm (v p) (c p i)) h, fun i => gs_lt (fun p _ => gm_lt (hv p)), fun q hq => ?_⟩
    rw [x_eq (hz q hq)]
    have s1 : gs (fun p => gm (v p) (u p q)) h = gs (fun p => gs (fun i => gm (v p) (gm (c p i) (V i q))) k) h :=
      gs_cong (fun p hp => by rw [e4 p q hp hq, gs_mull (hv p) (fun i _ => gm_lt (bc p i))])
    rw [s1, gs_swap]
    refine gs_cong (fun i _ => ?_)
    rw [gs_mulr (bV i q) (fun p _ => gm_lt (hv p))]
    exact gs_cong (fun p _ => (gm_assoc (hv p) (bc p i) (bV i q)).symm)
  · rintro ⟨a, ha, hs⟩ q hq
    show v q ^^^ gs (fun p => gm (v p) (u p q)) h = 0
    have s1 : gs (fun p => gm (v p) (u p q)) h = gs (fun p => gs (fun i => gm (gm (a i) (V i p)) (u p q)) k) h :=
      gs_cong (fun p hp => by rw [hs p hp, gs_mulr (bu p q) (fun i _ => gm_lt (ha i))])
    have s2 : gs (fun i => gs (fun p => gm (gm (a i) (V i p)) (u p q)) h) k = gs (fun i => gm (a i) (V i q)) k :=
      gs_cong (fun i hi => by
        rw [e5 i q hi hq, gs_mull (ha i) (fun p _ => gm_lt (bV i p))]
        exact gs_cong (fun p _ => gm_assoc (ha i) (bV i p) (bu p q)))
    rw [s1, gs_swap, s2, ← hs q hq, Nat.xor_self]
/-- nothing is left at a pivot -/
theorem EL_piv {h k : Nat} {V : Nat → Nat → Nat} {pv : Nat → Bool} {u c : Nat → Nat → Nat} (E : EL h k V pv u c) {v : Nat → Nat} (hv : nb v) {t : Nat} (ht : t < h) (hp : pv t = true) : rsd h u v t = 0 := by
  obtain ⟨⟨bu, bc, bV⟩, e1, e2, e3, e4, e5, e6, e7⟩ := E
  show v t ^^^ gs (fun p => gm (v p) (u p t)) h = 0
  rw [gs_one ht (fun p hp2 hne => ?_), e1 t t ht ht hp hp, if_pos rfl, gm_one (hv t), Nat.xor_self]
  cases hq : pv p with
  | false => rw [(e2 p hp2 hq).1 t]; exact gm_zero (hv p)
  | true => rw [e1 p t hp2 ht hq hp, if_neg hne]; exact gm_zero (hv p)
/-- the rows behind a step at the place t, where w is left, laid together by cw -/
def elU (u : Nat → Nat → Nat) (t : Nat) (w : Nat → Nat) (p q : Nat) : Nat := if p = t then gm (gi (w t)) (w q) else u p q ^^^ gm (u p t) (gm (gi (w t)) (w q))
def elC (u c : Nat → Nat → Nat) (t : Nat) (w cw : Nat → Nat) (p i : Nat) : Nat := if p = t then gm (gi (w t)) (cw i) else c p i ^^^ gm (u p t) (gm (gi (w t)) (cw i))
def elW (h k : Nat) (c : Nat → Nat → Nat) (v : Nat → Nat) (i : Nat) : Nat := (if i = k then 1 else 0) ^^^ gs (fun p => gm (v p) (c p i)) h
theorem EL_step {h k : Nat} {V : Nat → Nat → Nat} {pv : Nat → Bool} {u c : Nat → Nat → Nat} (E : EL h k V pv u c) {v : Nat → Nat} (hv : nb v) {t : Nat} (ht : t < h) (hw : rsd h u v t ≠ 0) :
    EL h (k + 1) (fun i => if i = k then v else V i) (fun p => if p = t then true else pv p) (elU u t (rsd h u v)) (elC u c t (rsd h u v) (elW h k c v)) := by
  have hpt : pv t = false := by
    cases hq : pv t with
    | false => rfl
    | true => exact absurd (EL_piv E hv ht hq) hw
  have hnsp : ¬ inSp h k V v := fun q => hw (((EL_in E hv).mpr q) t ht)
  have hpivz : ∀ q, q < h → pv q = true → rsd h u v q = 0 := fun q hq hp => EL_piv E hv hq hp
  have bw : nb (rsd h u v) := rsd_nb hv
  obtain ⟨⟨bu, bc, bV⟩, e1, e2, e3, e4, e5, e6, e7⟩ := E
  generalize hwd : rsd h u v = w at *
  have bg : gi (w t) < 256 := gi_lt _
  have bcw : nb (elW h k c v) := fun i => g_xor_lt (by split <;> omega) (gs_lt (fun p _ => gm_lt (hv p)))
  have but : nb (fun q => gm (gi (w t)) (w q)) := fun q => gm_lt bg
  have ut1 : gm (gi (w t)) (w t) = 1 := gm_gi' (bw t) hw
  have bV' : ∀ i, nb ((fun i => if i = k then v else V i) i) := fun i => by
    show nb (if i = k then v else V i)
    split
    · exact hv
    · exact bV i
  -- what a row of the new table lays out
  have key : ∀ (x : Nat → Nat), nb x → ∀ q, q < h → gs (fun p => gm (x p) (elU u t w p q)) h = x q ^^^ (rsd h u x q ^^^ gm (rsd h u x t) (gm (gi (w t)) (w q))) := by
    intro x hx q hq
    have hu0 : ∀ r, u t r = 0 := (e2 t ht hpt).1
    have s1 : ∀ p, p < h → gm (x p) (elU u t w p q) = (gm (x p) (u p q) ^^^ gm (gm (x p) (u p t)) (gm (gi (w t)) (w q))) ^^^ (if p = t then gm (x t) (gm (gi (w t)) (w q)) else 0) := by
      intro p _
      unfold elU
      by_cases e : p = t
      · subst e
        rw [if_pos rfl, if_pos rfl, hu0 q, hu0 p, gm_zero (hx p), gm_zero' (but q), Nat.xor_self, Nat.zero_xor]
      · rw [if_neg e, if_neg e, Nat.xor_zero, gm_xor' _ (bu p q) (gm_lt (bu p t)) (hx p), gm_assoc (hx p) (bu p t) (but q)]
    rw [gs_cong s1, gs_xor, gs_xor, ← gs_mulr (but q) (fun p _ => gm_lt (hx p)), gs_one (k := t) ht (fun i _ hne => if_neg hne), if_pos rfl]
    have r1 : gs (fun p => gm (x p) (u p q)) h = x q ^^^ rsd h u x q := by
      show _ = x q ^^^ (x q ^^^ _)
      rw [← Nat.xor_assoc, Nat.xor_self, Nat.zero_xor]
    have r2 : gs (fun p => gm (x p) (u p t)) h = x t ^^^ rsd h u x t := by
      show _ = x t ^^^ (x t ^^^ _)
      rw [← Nat.xor_assoc, Nat.xor_self, Nat.zero_xor]
    rw [r1, r2, gm_xor _ (hx t) (rsd_nb hx t)]
    generalize gm (x t) (gm (gi (w t)) (w q)) = z
    generalize gm (rsd h u x t) (gm (gi (w t)) (w q)) = y
    generalize rsd h u x q = r
    generalize x q = xq
    rw [show (xq ^^^ r) ^^^ (z ^^^ y) ^^^ z = xq ^^^ (r ^^^ y) ^^^ (z ^^^ z) by ac_rfl, Nat.xor_self, Nat.xor_zero]
  refine ⟨⟨?_, ?_, bV'⟩, ?_, ?_, ?_, ?_, ?_, ?_, ?_⟩
  · intro p q
    unfold elU
    split
    · exact but q
    · exact g_xor_lt (bu p q) (gm_lt (bu p t))
  · intro p i
    unfold elC
    split
    · exact gm_lt bg
    · exact g_xor_lt (bc p i) (gm_lt (bu p t))
  · intro p q hp hq hpp hpq
    unfold elU
    by_cases e : p = t
    · subst e
      rw [if_pos rfl]
      by_cases e2 : p = q
      · subst e2; rw [if_pos rfl]; exact ut1
      · rw [if_neg e2]
        have hpq' : pv q = true := by simpa [Ne.symm e2] using hpq
        rw [hpivz q hq hpq', gm_zero bg]
    · rw [if_neg e]
      have hpp' : pv p = true := by simpa [e] using hpp
      by_cases e2 : q = t
      · subst e2
        rw [ut1, gm_one (bu p q), Nat.xor_self, if_neg e]
      · have hpq' : pv q = true := by simpa [e2] using hpq
        rw [hpivz q hq hpq', gm_zero bg, gm_zero (bu p t), Nat.xor_zero, e1 p q hp hq hpp' hpq']
  · intro p hp hpp
    have e : p ≠ t := fun e => by simp [e] at hpp
    have hpp' : pv p = false := by simpa [e] using hpp
    have h1 := (e2 p hp hpp').1
    have h2 := (e2 p hp hpp').2
    refine ⟨fun q => ?_, fun i => ?_⟩
    · unfold elU
      rw [if_neg e, h1 q, h1 t, gm_zero' (but q)]
      rfl
    · unfold elC
      rw [if_neg e, h2 i, h1 t, gm_zero' (gm_lt bg)]
      rfl
  · intro p i hp hi
    have hcw : elW h k c v i = 0 := by
      unfold elW
      rw [if_neg (by omega), gs_zero (fun q hq => by rw [e3 q i hq (by omega)]; exact gm_zero (hv q))]
      rfl
    unfold elC
    rw [hcw, gm_zero bg, gm_zero (bu p t), e3 p i hp (by omega)]
    split <;> rfl
  · have hrow : ∀ q, q < h → gs (fun i => gm (elW h k c v i) ((fun i => if i = k then v else V i) i q)) (k + 1) = w q := by
      intro q hq
      have s1 : gs (fun i => gm (elW h k c v i) ((fun i => if i = k then v else V i) i q)) k = gs (fun p => gm (v p) (u p q)) h := by
        have t1 : gs (fun i => gm (elW h k c v i) ((fun i => if i = k then v else V i) i q)) k = gs (fun i => gs (fun p => gm (v p) (gm (c p i) (V i q))) h) k :=
          gs_cong (fun i hi => by
            show gm (elW h k c v i) ((if i = k then v else V i) q) = _
            unfold elW
            rw [if_neg (by omega), if_neg (by omega), Nat.zero_xor, gs_mulr (bV i q) (fun p _ => gm_lt (hv p))]
            exact gs_cong (fun p _ => gm_assoc (hv p) (bc p i) (bV i q)))
        rw [t1, gs_swap]
        exact gs_cong (fun p hp => by rw [e4 p q hp hq, gs_mull (hv p) (fun i _ => gm_lt (bc p i))])
      have s2 : gm (elW h k c v k) ((fun i => if i = k then v else V i) k q) = v q := by
        show gm (elW h k c v k) ((if k = k then v else V k) q) = v q
        unfold elW
        rw [if_pos rfl, if_pos rfl, gs_zero (fun p hp => by rw [e3 p k hp (Nat.le_refl k)]; exact gm_zero (hv p)), Nat.xor_zero, gm_one' (hv q)]
      rw [gs_succ, s1, s2, ← hwd]
      show _ = v q ^^^ _
      rw [Nat.xor_comm]
    have hut : ∀ q, q < h → gm (gi (w t)) (w q) = gs (fun i => gm (gm (gi (w t)) (elW h k c v i)) ((fun i => if i = k then v else V i) i q)) (k + 1) := by
      intro q hq
      rw [← hrow q hq, gs_mull bg (fun i _ => gm_lt (bcw i))]
      exact gs_cong (fun i _ => (gm_assoc bg (bcw i) (bV' i q)).symm)
    intro p q hp hq
    by_cases e : p = t
    · have a1 : elU u t w p q = gm (gi (w t)) (w q) := if_pos e
      rw [a1, hut q hq]
      exact gs_cong (fun i _ => by unfold elC; rw [if_pos e])
    · have a1 : elU u t w p q = u p q ^^^ gm (u p t) (gm (gi (w t)) (w q)) := if_neg e
      have o1 : u p q = gs (fun i => gm (c p i) ((fun i => if i = k then v else V i) i q)) (k + 1) := by
        rw [gs_succ, e3 p k hp (Nat.le_refl k), gm_zero' (bV' k q), Nat.xor_zero, e4 p q hp hq]
        exact gs_cong (fun i hi => by show _ = gm (c p i) ((if i = k then v else V i) q); rw [if_neg (by omega)])
      have o2 : gm (u p t) (gm (gi (w t)) (w q)) = gs (fun i => gm (gm (u p t) (gm (gi (w t)) (elW h k c v i))) ((fun i => if i = k then v else V i) i q)) (k + 1) := by
        rw [hut q hq, gs_mull (bu p t) (fun i _ => gm_lt (gm_lt bg))]
        exact gs_cong (fun i _ => (gm_assoc (bu p t) (gm_lt bg) (bV' i q)).symm)
      rw [a1, o2]
      rw [o1, ← gs_xor]
      refine gs_cong (fun i _ => ?_)
      unfold elC
      rw [if_neg e, gm_xor _ (bc p i) (gm_lt (bu p t))]
  · intro i q hi hq
    have hb := bV' i
    rw [key _ hb q hq]
    show (fun i => if i = k then v else V i) i q = _
    by_cases e : i = k
    · subst e
      have hs : (fun j => if j = i then v else V j) i = v := if_pos rfl
      rw [hs]
      have r1 : rsd h u v q = w q := congrFun hwd q
      have r2 : rsd h u v t = w t := congrFun hwd t
      rw [r1, r2, ← gm_assoc (bw t) bg (bw q), gm_gi (bw t) hw, gm_one' (bw q), Nat.xor_self, Nat.xor_zero]
    · have hs : (fun j => if j = k then v else V j) i = V i := if_neg e
      rw [hs]
      have r0 : ∀ r, r < h → rsd h u (V i) r = 0 := fun r hr => by
        show V i r ^^^ _ = 0
        rw [← e5 i r (by omega) hr, Nat.xor_self]
      rw [r0 q hq, r0 t ht, gm_zero' (but q), Nat.xor_self, Nat.xor_zero]
  · intro a ha hz i hi
    have hak : a k = 0 := by
      by_cases e : a k = 0
      · exact e
      · exfalso
        refine hnsp ⟨fun i => gm (gi (a k)) (a i), fun i => gm_lt (gi_lt _), fun q hq => ?_⟩
        have z := hz q hq
        rw [gs_succ] at z
        have z1 := x_eq z
        have z2 : (fun i => if i = k then v else V i) k q = v q := by show (if k = k then v else V k) q = v q; rw [if_pos rfl]
        rw [z2] at z1
        have z3 : gs (fun i => gm (a i) ((fun i => if i = k then v else V i) i q)) k = gs (fun i => gm (a i) (V i q)) k :=
          gs_cong (fun i hi => by show gm (a i) ((if i = k then v else V i) q) = _; rw [if_neg (by omega)])
        rw [z3] at z1
        have z4 : gm (gi (a k)) (gm (a k) (v q)) = v q := by rw [← gm_assoc (gi_lt _) (ha k) (hv q), gm_gi' (ha k) e, gm_one' (hv q)]
        rw [← z4, ← z1, gs_mull (gi_lt _) (fun i _ => gm_lt (ha i))]
        exact gs_cong (fun i _ => (gm_assoc (gi_lt _) (ha i) (bV i q)).symm)
    by_cases e : i = k
    · rw [e]; exact hak
    · refine e6 a ha (fun q hq => ?_) i (by omega)
      have z := hz q hq
      rw [gs_succ, hak, gm_zero' (bV' k q), Nat.xor_zero] at z
      rw [← z]
      exact gs_cong (fun i hi => by show _ = gm (a i) ((if i = k then v else V i) q); rw [if_neg (by omega)])
  · have := fb_ct_upd pv true (i := t) ht
    rw [hpt, if_neg (by decide), if_pos rfl, Nat.add_zero, e7] at this
    exact this
