/-! what scratch writing leaves as it was -/
def KX (M M' : zM) : Prop := (∀ c, (c = 1 ∨ (6 ≤ c ∧ c ≤ 13)) → M'.1 c = M.1 c) ∧ (∀ c, (c = 8 ∨ c = 9) → M'.2 c = M.2 c)
theorem KX.rf {M : zM} : KX M M := ⟨fun _ _ => rfl, fun _ _ => rfl⟩
theorem KX.tr {M M' M2 : zM} (h : KX M M') (h2 : KX M' M2) : KX M M2 := ⟨fun c hc => (h2.1 c hc).trans (h.1 c hc), fun c hc => (h2.2 c hc).trans (h.2 c hc)⟩
theorem KX.si {M : zM} {c k : Nat} {v : Int32} (hc : ¬ (c = 1 ∨ (6 ≤ c ∧ c ≤ 13))) : KX M (zsi M c k v) := ⟨fun a ha => by
  have : a ≠ c := fun e => hc (e ▸ ha)
  simp [zsi, zri, this], fun _ _ => rfl⟩
theorem KX.sj {M : zM} {c k : Nat} {v : Int64} (hc : ¬ (c = 8 ∨ c = 9)) : KX M (zsj M c k v) := ⟨fun _ _ => rfl, fun a ha => by
  have : a ≠ c := fun e => hc (e ▸ ha)
  simp [zsj, zrj, this]⟩
theorem RX.K {σ : Sg} {M M' : zM} (X : RX σ M) (h : KX M M') : RX σ M' := by
  have h1 := h.1 1 (by decide)
  have h6 := h.1 6 (by decide)
  have h7 := h.1 7 (by decide)
  have h10 := h.1 10 (by decide)
  have h11 := h.1 11 (by decide)
  have h12 := h.1 12 (by decide)
  have h13 := h.1 13 (by decide)
  have j8 := h.2 8 (by decide)
  have j9 := h.2 9 (by decide)
  unfold RX
  rw [h1, h6, h7, h10, h11, h12, h13, j8, j9]
  exact X
def KM (N N' : zM) : Prop := (∀ c, 22 ≤ c → c ≤ 29 → N'.1 c = N.1 c) ∧ (∀ k, (k ≤ 3 ∨ k = 17 ∨ k = 18) → N'.1 21 k = N.1 21 k) ∧ (∀ c, 22 ≤ c → c ≤ 29 → N'.2 c = N.2 c)
theorem KM.rf {M : zM} : KM M M := ⟨fun _ _ _ => rfl, fun _ _ => rfl, fun _ _ _ => rfl⟩
theorem KM.tr {M M' M2 : zM} (h : KM M M') (h2 : KM M' M2) : KM M M2 := ⟨fun c h3 h4 => (h2.1 c h3 h4).trans (h.1 c h3 h4), fun k hk => (h2.2.1 k hk).trans (h.2.1 k hk), fun c h3 h4 => (h2.2.2 c h3 h4).trans (h.2.2 c h3 h4)⟩
theorem KM.si {M : zM} {c k : Nat} {v : Int32} (hc : 30 ≤ c) : KM M (zsi M c k v) := ⟨fun a h1 h2 => by
  have : a ≠ c := by omega
  simp [zsi, zri, this], fun a ha => by
  have : 21 ≠ c := by omega
  simp [zsi, zri, this], fun _ _ _ => rfl⟩
theorem KM.sj {M : zM} {c k : Nat} {v : Int64} (hc : 30 ≤ c) : KM M (zsj M c k v) := ⟨fun a h1 h2 => rfl, fun _ _ => rfl, fun a h1 h2 => by
  have : a ≠ c := by omega
  simp [zsj, zrj, this]⟩
theorem KM.f {M : zM} {k : Nat} {v : Int32} (hk : ¬ (k ≤ 3 ∨ k = 17 ∨ k = 18)) : KM M (zsi M 21 k v) := ⟨fun a h1 h2 => by
  have : a ≠ 21 := by omega
  simp [zsi, zri, this], fun a ha => by
  have : a ≠ k := fun e => hk (e ▸ ha)
  show upd (M.1 21) k v a = _
  rw [pk_un this], fun _ _ _ => rfl⟩
theorem RM.K {σ : Sg} {N N' : zM} (Y : RM σ N) (h : KM N N') : RM σ N' := by
  have h1 := h.2.1 1 (by decide)
  have h2 := h.2.1 2 (by decide)
  have h3 := h.2.1 3 (by decide)
  have h23 := h.1 23 (by decide) (by decide)
  have h24 := h.1 24 (by decide) (by decide)
  have h25 := h.1 25 (by decide) (by decide)
  have h26 := h.1 26 (by decide) (by decide)
  have h27 := h.1 27 (by decide) (by decide)
  have h29 := h.1 29 (by decide) (by decide)
  have j22 := h.2.2 22 (by decide) (by decide)
  have j28 := h.2.2 28 (by decide) (by decide)
  unfold RM
  rw [h1, h2, h3, h23, h24, h25, h26, h27, h29, j22, j28]
  exact Y
theorem Al.K {N N' : zM} {a b : Int32} (A : Al N a b) (h : KM N N') : Al N' a b := ⟨(h.2.1 17 (by decide)).trans A.1, (h.2.1 18 (by decide)).trans A.2⟩
theorem Rel.K {σ : Sg} {M N M' N' : zM} (R : Rel σ M N) (h1 : KX M M') (h2 : KM N N') : Rel σ M' N' := ⟨R.1, R.2.1.K h1, R.2.2.1.K h2, R.2.2.2.K h2⟩
/-! the search: who has been come to, by which line, when; and the clock -/
abbrev Fs : Type := (Nat → Bool) × (Nat → Nat) × (Nat → Nat) × Nat
def fsrc (σ : Sg) (u : Nat → Bool) (l : Nat) : Nat := if u l then sT σ l else sF σ l
def fdst (σ : Sg) (u : Nat → Bool) (l : Nat) : Nat := if u l then sF σ l else sT σ l
def fgo (σ : Sg) (u : Nat → Bool) (s : Fs) (l : Nat) : Bool := !(sB σ l) && (s.1 (fsrc σ u l) && !(s.1 (fdst σ u l)))
def fnew (σ : Sg) (u : Nat → Bool) (s : Fs) (l : Nat) : Fs := (fun k => if k = fdst σ u l then true else s.1 k, fun k => if k = fdst σ u l then l else s.2.1 k, fun k => if k = fdst σ u l then s.2.2.2 else s.2.2.1 k, s.2.2.2 + 1)
def fstep (σ : Sg) (u : Nat → Bool) (s : Fs) (l : Nat) : Fs := if fgo σ u s l = true then fnew σ u s l else s
def fpass (σ : Sg) (u : Nat → Bool) (s : Fs) : Nat → Fs
  | 0 => s
  | n + 1 => fstep σ u (fpass σ u s n) n
def fini : Fs := (fun k => k == 0, fun _ => 0, fun _ => 0, 1)
def fit (σ : Sg) (u : Nat → Bool) : Nat → Fs
  | 0 => fini
  | n + 1 => fpass σ u (fit σ u n) (sL σ)
def fsk (σ : Sg) (u : Nat → Bool) : Fs := fit σ u (sR σ)
def Fok (σ : Sg) (u : Nat → Bool) (s : Fs) : Prop := s.1 0 = true ∧ (∀ k, s.1 k = true → k < sR σ) ∧
  (∀ k, s.1 k = true → k ≠ 0 → s.2.1 k < sL σ ∧ sB σ (s.2.1 k) = false ∧ fdst σ u (s.2.1 k) = k ∧ s.1 (fsrc σ u (s.2.1 k)) = true ∧ s.2.2.1 (fsrc σ u (s.2.1 k)) < s.2.2.1 k) ∧
  (∀ k, s.1 k = true → s.2.2.1 k < s.2.2.2) ∧ s.2.2.2 = fb_ct s.1 (sR σ)
theorem fends {σ : Sg} (W : Wf σ) (u : Nat → Bool) {l : Nat} (hl : l < sL σ) : fsrc σ u l < sR σ ∧ fdst σ u l < sR σ ∧ fsrc σ u l ≠ fdst σ u l := by
  have h := W.2.2.2.1 l hl
  unfold fsrc fdst
  cases u l <;> simp <;> omega
theorem fok_ini {σ : Sg} (W : Wf σ) (u : Nat → Bool) : Fok σ u fini := by
  have hR := W.1
  refine ⟨rfl, fun k hk => ?_, fun k hk hk0 => ?_, fun k _ => ?_, ?_⟩
  · have : k = 0 := by simpa [fini] using hk
    omega
  · have : k = 0 := by simpa [fini] using hk
    exact absurd this hk0
  · show (0 : Nat) < 1; omega
  · show 1 = fb_ct (fun k => k == 0) (sR σ)
    rw [show sR σ = 1 + (sR σ - 1) by omega, fb_ct_split, (fb_ct_zero (p := fun k => (1 + k == 0))).mpr (fun k _ => by simp)]
    rfl
theorem fok_step {σ : Sg} (W : Wf σ) {u : Nat → Bool} {s : Fs} (h : Fok σ u s) {l : Nat} (hl : l < sL σ) : Fok σ u (fstep σ u s l) := by
  unfold fstep
  by_cases hg : fgo σ u s l = true
  · rw [if_pos hg]
    have hg' : sB σ l = false ∧ s.1 (fsrc σ u l) = true ∧ s.1 (fdst σ u l) = false := by
      unfold fgo at hg
      simpa using hg
    obtain ⟨g1, g2, g3⟩ := hg'
    obtain ⟨h1, h2, h3, h4, h5⟩ := h
    obtain ⟨e1, e2, e3⟩ := fends W u hl
    have hd0 : fdst σ u l ≠ 0 := fun e => by rw [e, h1] at g3; cases g3
    have old : ∀ k, s.1 k = true → k ≠ fdst σ u l := fun k hk e => by rw [e, g3] at hk; cases hk
    refine ⟨?_, fun k hk => ?_, fun k hk hk0 => ?_, fun k hk => ?_, ?_⟩
    · show (if (0 : Nat) = fdst σ u l then true else s.1 0) = true
      split
      · rfl
      · exact h1
    · have hk' : (if k = fdst σ u l then true else s.1 k) = true := hk
      by_cases e : k = fdst σ u l
      · rw [e]; exact e2
      · rw [if_neg e] at hk'; exact h2 k hk'
    · have hk' : (if k = fdst σ u l then true else s.1 k) = true := hk
      show (if k = fdst σ u l then l else s.2.1 k) < sL σ ∧ sB σ (if k = fdst σ u l then l else s.2.1 k) = false ∧ fdst σ u (if k = fdst σ u l then l else s.2.1 k) = k ∧ (if fsrc σ u (if k = fdst σ u l then l else s.2.1 k) = fdst σ u l then true else s.1 (fsrc σ u (if k = fdst σ u l then l else s.2.1 k))) = true ∧ (if fsrc σ u (if k = fdst σ u l then l else s.2.1 k) = fdst σ u l then s.2.2.2 else s.2.2.1 (fsrc σ u (if k = fdst σ u l then l else s.2.1 k))) < (if k = fdst σ u l then s.2.2.2 else s.2.2.1 k)
      by_cases e : k = fdst σ u l
      · rw [if_pos e, if_pos e, if_neg e3, if_neg e3]
        exact ⟨hl, g1, e.symm, g2, h4 _ g2⟩
      · rw [if_neg e] at hk'
        obtain ⟨b1, b2, b3, b4, b5⟩ := h3 k hk' hk0
        rw [if_neg e, if_neg e, if_neg (old _ b4), if_neg (old _ b4)]
        exact ⟨b1, b2, b3, b4, b5⟩
    · have hk' : (if k = fdst σ u l then true else s.1 k) = true := hk
      show (if k = fdst σ u l then s.2.2.2 else s.2.2.1 k) < s.2.2.2 + 1
      by_cases e : k = fdst σ u l
      · rw [if_pos e]; omega
      · rw [if_neg e] at hk' ⊢
        have := h4 k hk'
        omega
    · show s.2.2.2 + 1 = fb_ct (fun k => if k = fdst σ u l then true else s.1 k) (sR σ)
      have := fb_ct_upd s.1 true (i := fdst σ u l) e2
      rw [g3, if_neg (by decide), if_pos rfl, Nat.add_zero] at this
      rw [this, h5]
  · rw [if_neg hg]
    exact h
theorem fok_pass {σ : Sg} (W : Wf σ) {u : Nat → Bool} {s : Fs} (h : Fok σ u s) : ∀ n, n ≤ sL σ → Fok σ u (fpass σ u s n)
  | 0, _ => h
  | n + 1, hn => fok_step W (fok_pass W h n (by omega)) (by omega)
theorem fok_it {σ : Sg} (W : Wf σ) (u : Nat → Bool) : ∀ n, Fok σ u (fit σ u n)
  | 0 => fok_ini W u
  | n + 1 => fok_pass W (fok_it W u n) _ (Nat.le_refl _)
theorem fstep_clk (σ : Sg) (u : Nat → Bool) (s : Fs) (l : Nat) : (fstep σ u s l).2.2.2 = s.2.2.2 + (if fgo σ u s l then 1 else 0) := by
  unfold fstep
  by_cases h : fgo σ u s l = true
  · rw [if_pos h, if_pos h]; rfl
  · rw [if_neg h, if_neg h, Nat.add_zero]
theorem fpass_clk (σ : Sg) (u : Nat → Bool) (s : Fs) : ∀ n, s.2.2.2 ≤ (fpass σ u s n).2.2.2 ∧ ((fpass σ u s n).2.2.2 = s.2.2.2 → fpass σ u s n = s)
  | 0 => ⟨Nat.le_refl _, fun _ => rfl⟩
  | n + 1 => by
    obtain ⟨h1, h2⟩ := fpass_clk σ u s n
    have h3 := fstep_clk σ u (fpass σ u s n) n
    refine ⟨?_, fun h => ?_⟩
    · show _ ≤ (fstep σ u (fpass σ u s n) n).2.2.2
      omega
    · have h' : (fstep σ u (fpass σ u s n) n).2.2.2 = s.2.2.2 := h
      have hz : ¬ fgo σ u (fpass σ u s n) n = true := fun z => by rw [if_pos z] at h3; omega
      show fstep σ u (fpass σ u s n) n = s
      unfold fstep
      rw [if_neg hz]
      rw [if_neg hz] at h3
      exact h2 (by omega)
theorem fit_stab (σ : Sg) (u : Nat → Bool) : ∀ n, fit σ u (n + 1) = fit σ u n ∨ n + 1 ≤ (fit σ u n).2.2.2
  | 0 => Or.inr (Nat.le_refl 1)
  | n + 1 => by
    rcases fit_stab σ u n with h | h
    · left
      show fpass σ u (fit σ u (n + 1)) (sL σ) = fpass σ u (fit σ u n) (sL σ)
      rw [h]
    · obtain ⟨h1, h2⟩ := fpass_clk σ u (fit σ u n) (sL σ)
      by_cases e : (fit σ u (n + 1)).2.2.2 = (fit σ u n).2.2.2
      · left
        have e2 : fit σ u (n + 1) = fit σ u n := h2 e
        show fpass σ u (fit σ u (n + 1)) (sL σ) = fpass σ u (fit σ u n) (sL σ)
        rw [e2]
      · right
        have : (fit σ u n).2.2.2 ≤ (fit σ u (n + 1)).2.2.2 := h1
        omega
theorem fsk_fix {σ : Sg} (W : Wf σ) (u : Nat → Bool) : fit σ u (sR σ + 1) = fsk σ u := by
  rcases fit_stab σ u (sR σ) with h | h
  · exact h
  · exfalso
    have h1 := (fok_it W u (sR σ)).2.2.2.2
    have h2 := fb_ct_le (fit σ u (sR σ)).1 (sR σ)
    omega
theorem fit_from {σ : Sg} {u : Nat → Bool} {m : Nat} (h : fit σ u (m + 1) = fit σ u m) : ∀ j, fit σ u (m + j) = fit σ u m
  | 0 => rfl
  | j + 1 => by
    show fpass σ u (fit σ u (m + j)) (sL σ) = fit σ u m
    rw [fit_from h j]
    exact h
theorem fit_fsk {σ : Sg} (W : Wf σ) {u : Nat → Bool} {m : Nat} (h : fit σ u (m + 1) = fit σ u m) : fit σ u m = fsk σ u := by
  rcases Nat.le_total m (sR σ) with q | q
  · have := fit_from h (sR σ - m)
    rw [show m + (sR σ - m) = sR σ by omega] at this
    exact this.symm
  · have := fit_from (fsk_fix W u) (m - sR σ)
    rw [show sR σ + (m - sR σ) = m by omega] at this
    exact this
theorem fsk_ok {σ : Sg} (W : Wf σ) (u : Nat → Bool) : Fok σ u (fsk σ u) := fok_it W u _
theorem fit_clk {σ : Sg} (W : Wf σ) (u : Nat → Bool) (n : Nat) : (fit σ u n).2.2.2 ≤ sR σ := by
  have h1 := (fok_it W u n).2.2.2.2
  have h2 := fb_ct_le (fit σ u n).1 (sR σ)
  omega
/-- with the same set there is the same state -/
theorem fit_same {σ : Sg} (W : Wf σ) {u : Nat → Bool} {n : Nat} (h : ∀ k, k < sR σ → (fit σ u (n + 1)).1 k = (fit σ u n).1 k) : fit σ u (n + 1) = fit σ u n := by
  refine (fpass_clk σ u (fit σ u n) (sL σ)).2 ?_
  have h1 := (fok_it W u (n + 1)).2.2.2.2
  have h2 := (fok_it W u n).2.2.2.2
  rw [show fpass σ u (fit σ u n) (sL σ) = fit σ u (n + 1) from rfl, h1, h2]
  exact fb_ct_cong h
/-! turning a way: from a relay back to the source -/
def fpar (σ : Sg) (u : Nat → Bool) (k : Nat) : Nat := fsrc σ u ((fsk σ u).2.1 k)
def fflip (v : Nat → Bool) (l : Nat) : Nat → Bool := fun k => if k = l then !v k else v k
def fturn (σ : Sg) (u : Nat → Bool) : Nat → Nat → (Nat → Bool) → (Nat → Bool)
  | 0, _, v => v
  | n + 1, k, v => if k = 0 then v else fturn σ u n (fpar σ u k) (fflip v ((fsk σ u).2.1 k))
def fuse (σ : Sg) (r : Nat) : Nat → (Nat → Bool)
  | 0 => fun _ => false
  | n + 1 => fturn σ (fuse σ r n) (sR σ) r (fuse σ r n)
def FlowIs (σ : Sg) (r n : Nat) : Prop := (∀ m, m < n → (fsk σ (fuse σ r m)).1 r = true) ∧ (fsk σ (fuse σ r n)).1 r = false
theorem FlowIs_one {σ : Sg} {r n m : Nat} (h1 : FlowIs σ r n) (h2 : FlowIs σ r m) : n = m := by
  rcases Nat.lt_trichotomy n m with h | h | h
  · have := h2.1 n h
    rw [h1.2] at this
    cases this
  · exact h
  · have := h1.1 m h
    rw [h2.2] at this
    cases this
/-- the lines in use out of the source, after a turn: one more -/
def fout (σ : Sg) (v : Nat → Bool) : Nat := fb_ct (fun l => v l && (sF σ l == 0)) (sL σ)
theorem fturn_out {σ : Sg} (W : Wf σ) (u : Nat → Bool) : ∀ n k (v : Nat → Bool), (fsk σ u).1 k = true → k ≠ 0 → (fsk σ u).2.2.1 k < n → (∀ j, (fsk σ u).1 j = true → j ≠ 0 → (fsk σ u).2.2.1 j ≤ (fsk σ u).2.2.1 k → v ((fsk σ u).2.1 j) = u ((fsk σ u).2.1 j)) → fout σ (fturn σ u n k v) = fout σ v + 1 := by
  have ok := fsk_ok W u
  generalize hs : fsk σ u = s at ok
  intro n
  induction n with
  | zero => intro k v _ _ h; omega
  | succ n ih =>
    intro k v hk hk0 ht hv
    have hst : fturn σ u (n + 1) k v = fturn σ u n (fpar σ u k) (fflip v (s.2.1 k)) := by
      show (if k = 0 then v else fturn σ u n (fpar σ u k) (fflip v ((fsk σ u).2.1 k))) = _
      rw [if_neg hk0, hs]
    rw [hst]
    obtain ⟨b1, b2, b3, b4, b5⟩ := ok.2.2.1 k hk hk0
    have hpar : fpar σ u k = fsrc σ u (s.2.1 k) := by unfold fpar; rw [hs]
    have hvk : v (s.2.1 k) = u (s.2.1 k) := hv k hk hk0 (Nat.le_refl _)
    have hFT := W.2.2.2.1 _ b1
    have hcnt := fb_ct_upd (fun l => v l && (sF σ l == 0)) (!v (s.2.1 k) && (sF σ (s.2.1 k) == 0)) (i := s.2.1 k) b1
    have hfl : (fun l => fflip v (s.2.1 k) l && (sF σ l == 0)) = (fun l => if l = s.2.1 k then (!v (s.2.1 k) && (sF σ (s.2.1 k) == 0)) else (v l && (sF σ l == 0))) := by
      funext l
      unfold fflip
      by_cases e : l = s.2.1 k
      · rw [if_pos e, if_pos e, e]
      · rw [if_neg e, if_neg e]
    have hfo : fout σ (fflip v (s.2.1 k)) + (if (v (s.2.1 k) && (sF σ (s.2.1 k) == 0)) = true then 1 else 0) = fout σ v + (if (!v (s.2.1 k) && (sF σ (s.2.1 k) == 0)) = true then 1 else 0) := by
      unfold fout
      rw [hfl]
      exact hcnt
    by_cases hp0 : fpar σ u k = 0
    · have hend : fturn σ u n (fpar σ u k) (fflip v (s.2.1 k)) = fflip v (s.2.1 k) := by
        cases n with
        | zero => rfl
        | succ n => show (if fpar σ u k = 0 then _ else _) = _; rw [if_pos hp0]
      rw [hend]
      rw [hpar] at hp0
      have hu : u (s.2.1 k) = false := by
        cases hq : u (s.2.1 k) with
        | false => rfl
        | true =>
          unfold fsrc at hp0
          rw [hq, if_pos rfl] at hp0
          omega
      have hF0 : sF σ (s.2.1 k) = 0 := by
        unfold fsrc at hp0
        rw [hu] at hp0
        simpa using hp0
      rw [hvk, hu, hF0] at hfo
      simpa using hfo
    · rw [hpar] at hp0 ⊢
      have hF0 : sF σ (s.2.1 k) ≠ 0 := by
        intro e
        cases hq : u (s.2.1 k) with
        | false =>
          unfold fsrc at hp0
          rw [hq] at hp0
          exact hp0 (by simpa using e)
        | true =>
          unfold fdst at b3
          rw [hq, if_pos rfl] at b3
          omega
      have hsame : fout σ (fflip v (s.2.1 k)) = fout σ v := by
        have e : (sF σ (s.2.1 k) == 0) = false := by simpa using hF0
        rw [e, Bool.and_false, Bool.and_false] at hfo
        simpa using hfo
      rw [← hsame]
      refine ih (fsrc σ u (s.2.1 k)) _ b4 hp0 (by omega) (fun j hj hj0 hjt => ?_)
      have hne : s.2.1 j ≠ s.2.1 k := fun e => by
        have h1 := (ok.2.2.1 j hj hj0).2.2.1
        rw [e, b3] at h1
        subst h1
        omega
      unfold fflip
      rw [if_neg hne]
      exact hv j hj hj0 (by omega)
theorem fuse_out {σ : Sg} (W : Wf σ) {r : Nat} (hr0 : r ≠ 0) : ∀ n, (∀ m, m < n → (fsk σ (fuse σ r m)).1 r = true) → fout σ (fuse σ r n) = n
  | 0, _ => by
    show fb_ct (fun l => false && (sF σ l == 0)) (sL σ) = 0
    exact (fb_ct_zero).mpr (fun k _ => rfl)
  | n + 1, h => by
    show fout σ (fturn σ (fuse σ r n) (sR σ) r (fuse σ r n)) = n + 1
    have ok := fsk_ok W (fuse σ r n)
    have hc := h n (Nat.lt_succ_self n)
    have ht := ok.2.2.2.1 r hc
    have hk := fit_clk W (fuse σ r n) (sR σ)
    rw [fturn_out W (fuse σ r n) (sR σ) r (fuse σ r n) hc hr0 (Nat.lt_of_lt_of_le ht hk) (fun _ _ _ _ => rfl), fuse_out W hr0 n (fun m hm => h m (by omega))]
theorem flow_ex {σ : Sg} (W : Wf σ) {r : Nat} (hr0 : r ≠ 0) : ∃ n, n ≤ sL σ ∧ FlowIs σ r n := by
  have key : ∃ n, n ≤ sL σ ∧ (fsk σ (fuse σ r n)).1 r = false := by
    by_cases h : ∃ n, n ≤ sL σ ∧ (fsk σ (fuse σ r n)).1 r = false
    · exact h
    · exfalso
      have hall : ∀ m, m < sL σ + 1 → (fsk σ (fuse σ r m)).1 r = true := fun m hm => by
        cases hq : (fsk σ (fuse σ r m)).1 r with
        | true => rfl
        | false => exact absurd ⟨m, by omega, hq⟩ h
      have h1 := fuse_out W hr0 (sL σ + 1) hall
      have h2 : fout σ (fuse σ r (sL σ + 1)) ≤ sL σ := fb_ct_le _ _
      omega
  obtain ⟨k, ⟨hk1, hk2⟩, hk3⟩ := pk_least (fun n => n ≤ sL σ ∧ (fsk σ (fuse σ r n)).1 r = false) key
  refine ⟨k, hk1, fun m hm => ?_, hk2⟩
  cases hq : (fsk σ (fuse σ r m)).1 r with
  | true => rfl
  | false => exact absurd ⟨by omega, hq⟩ (hk3 m hm)
