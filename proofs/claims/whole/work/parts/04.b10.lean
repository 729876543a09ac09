theorem znX6_count_X6 : ∀ w ∈ wsX60, w ∈ wsX6_count := fun _ h => List.mem_cons_of_mem _ (List.mem_append_right _ h)
theorem zdX6_count : yX6_count.cls ≠ "java/lang/invoke/MethodHandle" ∧ yX6_count.cls ≠ "java/lang/invoke/VarHandle" ∧ (parseMethodDescriptor yX6_count.desc).map (fun d => d.parameters.length) = some 1 := by decide +kernel
-- MixingRelaysModel count(I)I
section
variable {p : Program} {l : Launch} {e : Env} {s : State} {m : MethodId} {args : Array Value} {below : List Frame} {meth : Method} {c : Code} {Q : State → Prop} {G : zG} {O : zM}
def pX6_count_b89 (M : zM) (post : Int32 → Prop) (ag66 : Int32 → Int32 → Prop) (x3 : Int32) (t0 : Int32) (t1 : Int32) : Prop :=
  ag66 (t1 + t0) (x3 + (1 : Int32))
set_option maxHeartbeats 4000000 in
set_option maxRecDepth 100000 in
theorem wX6_count_b89 {M : zM} {post : Int32 → Prop} {ag66 : Int32 → Int32 → Prop} (hF : CallFix p m c cX6_count 4 s args wsX6_count RX6) (hSt : zSt G s) (hret : zRi p l e ({ frames := 3, cells := 0, slots := 0, locals := 67 } : Room) s m args below meth c Q cX6_count G false O (fun r M1 => M1 = M ∧ post r)) (hag66 : ∀ (x2 : Int32) (x3 : Int32) (H : Heap) (locs : List Loc) (ls : Array Slot), ag66 x2 x3 → zH G false s H locs M O → lv_has ls 4 [(0, .ref (G.1 21)), (2, .int x2), (3, .int x3)] → W p l e ({ frames := 3, cells := 0, slots := 0, locals := 67 } : Room) s m args below meth c H locs 0 0 Q (F0 m 66 ls [])) (x3 : Int32) (t0 : Int32) (t1 : Int32) (H : Heap) (locs : List Loc) (ls : Array Slot) (hH : zH G false s H locs M O) (hl : lv_has ls 4 [(0, .ref (G.1 21)), (3, .int x3)]) (h : pX6_count_b89 M post ag66 x3 t0 t1) : W p l e ({ frames := 3, cells := 0, slots := 0, locals := 67 } : Room) s m args below meth c H locs 0 0 Q (F0 m 89 ls [.int t0, .int t1]) := by
  obtain ⟨hx, hb, hml, hown, hts⟩ := id hF
  unfold pX6_count_b89 at h
  refine lv_iadd hx hb dX6_count_89 ?_
  refine lv_istore_n (lv' := [(2, .int (t1 + t0)), (0, .ref (G.1 21)), (3, .int x3)]) hx hb dX6_count_90 rfl hl (by decide) rfl (fun ls hl => ?_)
  refine lv_iinc (v := (x3 + (1 : Int32))) (lv' := [(3, .int (x3 + (1 : Int32))), (2, .int (t1 + t0)), (0, .ref (G.1 21))]) hx hb dX6_count_91 hl (k := 2) rfl rfl (by decide) rfl (fun ls hl => ?_)
  refine lv_goto (tgt := 66) hx hb dX6_count_94 (by decide) ?_
  exact hag66 (t1 + t0) (x3 + (1 : Int32)) H locs ls h hH (lv_sub hl [2, 1, 0] rfl)
def pX6_count_b66 (M : zM) (post : Int32 → Prop) (ag66 : Int32 → Int32 → Prop) (x2 : Int32) (x3 : Int32) : Prop :=
  ((M.1 21 2) ≤ x3 → post x2) ∧ (¬ ((M.1 21 2) ≤ x3) → vp_in x3 30 ∧ ((M.1 27 x3.toNatClampNeg) = 0 → pX6_count_b89 M post ag66 x3 (0 : Int32) x2) ∧ (¬ ((M.1 27 x3.toNatClampNeg) = 0) → pX6_count_b89 M post ag66 x3 (1 : Int32) x2))
set_option maxHeartbeats 4000000 in
set_option maxRecDepth 100000 in
theorem wX6_count_b66 {M : zM} {post : Int32 → Prop} {ag66 : Int32 → Int32 → Prop} (hF : CallFix p m c cX6_count 4 s args wsX6_count RX6) (hSt : zSt G s) (hret : zRi p l e ({ frames := 3, cells := 0, slots := 0, locals := 67 } : Room) s m args below meth c Q cX6_count G false O (fun r M1 => M1 = M ∧ post r)) (hag66 : ∀ (x2 : Int32) (x3 : Int32) (H : Heap) (locs : List Loc) (ls : Array Slot), ag66 x2 x3 → zH G false s H locs M O → lv_has ls 4 [(0, .ref (G.1 21)), (2, .int x2), (3, .int x3)] → W p l e ({ frames := 3, cells := 0, slots := 0, locals := 67 } : Room) s m args below meth c H locs 0 0 Q (F0 m 66 ls [])) (x2 : Int32) (x3 : Int32) (H : Heap) (locs : List Loc) (ls : Array Slot) (hH : zH G false s H locs M O) (hl : lv_has ls 4 [(0, .ref (G.1 21)), (2, .int x2), (3, .int x3)]) (h : pX6_count_b66 M post ag66 x2 x3) : W p l e ({ frames := 3, cells := 0, slots := 0, locals := 67 } : Room) s m args below meth c H locs 0 0 Q (F0 m 66 ls []) := by
  obtain ⟨hx, hb, hml, hown, hts⟩ := id hF
  unfold pX6_count_b66 at h
  refine lv_iload_n hx hb dX6_count_66 rfl (lv_at hl 2 rfl) ?_
  refine lv_aload_n hx hb dX6_count_67 rfl (lv_at hl 0 rfl) ?_
  refine zget (v := .int (M.1 21 2)) hF hSt hH 21 (by decide) rfl (zE_21 _ _ _) (C := RX6) (T := TX6) (N := 31) rfl znX6_count_X6 2 (by decide) (List.mem_of_getElem? (i := 2) rfl) rfl dX6_count_68 ?_
  refine lv_icmp_ge (tgt := 97) hx hb dX6_count_71 (by decide) (fun q71 => ?_) (fun q71 => ?_)
  · have h := h.1 q71
    refine lv_iload_n hx hb dX6_count_97 rfl (lv_at hl 1 rfl) ?_
    exact hret _ _ _ _ _ _ dX6_count_98 ⟨rfl, h⟩ hH
  · have h := h.2 q71
    refine lv_iload_n hx hb dX6_count_74 rfl (lv_at hl 1 rfl) ?_
    refine lv_aload_n hx hb dX6_count_75 rfl (lv_at hl 0 rfl) ?_
    refine zget (v := .ref (G.1 27)) hF hSt hH 21 (by decide) rfl (zE_21 _ _ _) (C := RX6) (T := TX6) (N := 31) rfl znX6_count_X6 9 (by decide) (List.mem_of_getElem? (i := 4) rfl) rfl dX6_count_76 ?_
    refine lv_iload_n hx hb dX6_count_79 rfl (lv_at hl 2 rfl) ?_
    obtain ⟨q80, h⟩ := h
    refine zzald hF hSt hH 27 (by decide) rfl (zE_27 _ _ _) q80 dX6_count_80 ?_
    refine lv_if_eq (tgt := 88) hx hb dX6_count_81 (by decide) (fun q81 => ?_) (fun q81 => ?_)
    · have h := h.1 q81
      refine lv_iconst (v := (0 : Int32)) hx hb dX6_count_88 (by decide) ?_
      exact wX6_count_b89 hF hSt hret hag66 x3 (0 : Int32) x2 H locs ls hH (lv_sub hl [0, 2] rfl) h
    · have h := h.2 q81
      refine lv_iconst (v := (1 : Int32)) hx hb dX6_count_84 (by decide) ?_
      refine lv_goto (tgt := 89) hx hb dX6_count_85 (by decide) ?_
      exact wX6_count_b89 hF hSt hret hag66 x3 (1 : Int32) x2 H locs ls hH (lv_sub hl [0, 2] rfl) h
def pX6_count_L66 (M : zM) (post : Int32 → Prop) (x2 : Int32) (x3 : Int32) : Prop :=
  ∃ I : Nat → Int32 → Int32 → Prop, (∃ n, I n x2 x3) ∧ ∀ n x2 x3, I n x2 x3 → pX6_count_b66 M post (fun x2 x3 => ∃ k, k < n ∧ I k x2 x3) x2 x3
set_option maxHeartbeats 4000000 in
theorem wX6_count_L66 {M : zM} {post : Int32 → Prop}  (hF : CallFix p m c cX6_count 4 s args wsX6_count RX6) (hSt : zSt G s) (hret : zRi p l e ({ frames := 3, cells := 0, slots := 0, locals := 67 } : Room) s m args below meth c Q cX6_count G false O (fun r M1 => M1 = M ∧ post r)) (x2 : Int32) (x3 : Int32) (H : Heap) (locs : List Loc) (ls : Array Slot) (hH : zH G false s H locs M O) (hl : lv_has ls 4 [(0, .ref (G.1 21)), (2, .int x2), (3, .int x3)]) (h : pX6_count_L66 M post x2 x3) : W p l e ({ frames := 3, cells := 0, slots := 0, locals := 67 } : Room) s m args below meth c H locs 0 0 Q (F0 m 66 ls []) := by
  obtain ⟨I, ⟨n, hI⟩, hs⟩ := h
  have key : ∀ (n : Nat) (x2 : Int32) (x3 : Int32) (H : Heap) (locs : List Loc) (ls : Array Slot), I n x2 x3 → zH G false s H locs M O → lv_has ls 4 [(0, .ref (G.1 21)), (2, .int x2), (3, .int x3)] → W p l e ({ frames := 3, cells := 0, slots := 0, locals := 67 } : Room) s m args below meth c H locs 0 0 Q (F0 m 66 ls []) := by
    intro n
    induction n using Nat.strongRecOn with
    | _ n ih =>
      intro x2 x3 H locs ls hI hH hl
      exact wX6_count_b66 hF hSt hret (fun x2 x3 H locs ls h hH hl => by obtain ⟨k, hk, hI⟩ := h; exact ih k hk x2 x3 H locs ls hI hH hl) x2 x3 H locs ls hH hl (hs n x2 x3 hI)
  exact key n x2 x3 H locs ls hI hH hl
def pX6_count_b123 (M : zM) (post : Int32 → Prop) (ag101 : Int32 → Int32 → Prop) (x3 : Int32) (t0 : Int32) (t1 : Int32) : Prop :=
  ag101 (t1 + t0) (x3 + (1 : Int32))
set_option maxHeartbeats 4000000 in
set_option maxRecDepth 100000 in
theorem wX6_count_b123 {M : zM} {post : Int32 → Prop} {ag101 : Int32 → Int32 → Prop} (hF : CallFix p m c cX6_count 4 s args wsX6_count RX6) (hSt : zSt G s) (hret : zRi p l e ({ frames := 3, cells := 0, slots := 0, locals := 67 } : Room) s m args below meth c Q cX6_count G false O (fun r M1 => M1 = M ∧ post r)) (hag101 : ∀ (x2 : Int32) (x3 : Int32) (H : Heap) (locs : List Loc) (ls : Array Slot), ag101 x2 x3 → zH G false s H locs M O → lv_has ls 4 [(0, .ref (G.1 21)), (2, .int x2), (3, .int x3)] → W p l e ({ frames := 3, cells := 0, slots := 0, locals := 67 } : Room) s m args below meth c H locs 0 0 Q (F0 m 101 ls [])) (x3 : Int32) (t0 : Int32) (t1 : Int32) (H : Heap) (locs : List Loc) (ls : Array Slot) (hH : zH G false s H locs M O) (hl : lv_has ls 4 [(0, .ref (G.1 21)), (3, .int x3)]) (h : pX6_count_b123 M post ag101 x3 t0 t1) : W p l e ({ frames := 3, cells := 0, slots := 0, locals := 67 } : Room) s m args below meth c H locs 0 0 Q (F0 m 123 ls [.int t0, .int t1]) := by
  obtain ⟨hx, hb, hml, hown, hts⟩ := id hF
  unfold pX6_count_b123 at h
  refine lv_iadd hx hb dX6_count_123 ?_
  refine lv_istore_n (lv' := [(2, .int (t1 + t0)), (0, .ref (G.1 21)), (3, .int x3)]) hx hb dX6_count_124 rfl hl (by decide) rfl (fun ls hl => ?_)
  refine lv_iinc (v := (x3 + (1 : Int32))) (lv' := [(3, .int (x3 + (1 : Int32))), (2, .int (t1 + t0)), (0, .ref (G.1 21))]) hx hb dX6_count_125 hl (k := 2) rfl rfl (by decide) rfl (fun ls hl => ?_)
  refine lv_goto (tgt := 101) hx hb dX6_count_128 (by decide) ?_
  exact hag101 (t1 + t0) (x3 + (1 : Int32)) H locs ls h hH (lv_sub hl [2, 1, 0] rfl)
def pX6_count_b101 (M : zM) (post : Int32 → Prop) (ag101 : Int32 → Int32 → Prop) (x2 : Int32) (x3 : Int32) : Prop :=
  ((M.1 21 2) ≤ x3 → post x2) ∧ (¬ ((M.1 21 2) ≤ x3) → pX6_isPassing M x3 (fun r112 => (r112 = 0 → pX6_count_b123 M post ag101 x3 (0 : Int32) x2) ∧ (¬ (r112 = 0) → pX6_count_b123 M post ag101 x3 (1 : Int32) x2)))
set_option maxHeartbeats 4000000 in
set_option maxRecDepth 100000 in
theorem wX6_count_b101 {M : zM} {post : Int32 → Prop} {ag101 : Int32 → Int32 → Prop} (hF : CallFix p m c cX6_count 4 s args wsX6_count RX6) (hSt : zSt G s) (hret : zRi p l e ({ frames := 3, cells := 0, slots := 0, locals := 67 } : Room) s m args below meth c Q cX6_count G false O (fun r M1 => M1 = M ∧ post r)) (hag101 : ∀ (x2 : Int32) (x3 : Int32) (H : Heap) (locs : List Loc) (ls : Array Slot), ag101 x2 x3 → zH G false s H locs M O → lv_has ls 4 [(0, .ref (G.1 21)), (2, .int x2), (3, .int x3)] → W p l e ({ frames := 3, cells := 0, slots := 0, locals := 67 } : Room) s m args below meth c H locs 0 0 Q (F0 m 101 ls [])) (x2 : Int32) (x3 : Int32) (H : Heap) (locs : List Loc) (ls : Array Slot) (hH : zH G false s H locs M O) (hl : lv_has ls 4 [(0, .ref (G.1 21)), (2, .int x2), (3, .int x3)]) (h : pX6_count_b101 M post ag101 x2 x3) : W p l e ({ frames := 3, cells := 0, slots := 0, locals := 67 } : Room) s m args below meth c H locs 0 0 Q (F0 m 101 ls []) := by
  obtain ⟨hx, hb, hml, hown, hts⟩ := id hF
  unfold pX6_count_b101 at h
  refine lv_iload_n hx hb dX6_count_101 rfl (lv_at hl 2 rfl) ?_
  refine lv_aload_n hx hb dX6_count_102 rfl (lv_at hl 0 rfl) ?_
  refine zget (v := .int (M.1 21 2)) hF hSt hH 21 (by decide) rfl (zE_21 _ _ _) (C := RX6) (T := TX6) (N := 31) rfl znX6_count_X6 2 (by decide) (List.mem_of_getElem? (i := 2) rfl) rfl dX6_count_103 ?_
  refine lv_icmp_ge (tgt := 131) hx hb dX6_count_106 (by decide) (fun q106 => ?_) (fun q106 => ?_)
  · have h := h.1 q106
    refine lv_iload_n hx hb dX6_count_131 rfl (lv_at hl 1 rfl) ?_
    exact hret _ _ _ _ _ _ dX6_count_132 ⟨rfl, h⟩ hH
  · have h := h.2 q106
    refine lv_iload_n hx hb dX6_count_109 rfl (lv_at hl 1 rfl) ?_
    refine lv_aload_n hx hb dX6_count_110 rfl (lv_at hl 0 rfl) ?_
    refine lv_iload_n hx hb dX6_count_111 rfl (lv_at hl 2 rfl) ?_
    refine zcalliP hH (va_runV (As := [.int x3]) (rest := [.int x2]) hF (kX6_isPassing l G M O x3 _ h) (cwV 1 hts gX6_count_X6_isPassing rfl rfl rfl ⟨rfl, zdX6_isPassing⟩ ⟨Nat.le_of_ble_eq_true rfl, Nat.le_of_ble_eq_true rfl⟩) (zpreV hSt hH 21 (by decide) rfl (zE_21 _ _ _) (q := (RX6, TX6, 31)) rfl [.int x3]) rfl rfl hl.1 rfl (lv_room (Nat.le_of_ble_eq_true rfl)) dX6_count_112 ⟨Nat.zero_le _, Nat.zero_le _⟩) (fun r112 H locs h hH => ?_)
    refine lv_if_eq (tgt := 122) hx hb dX6_count_115 (by decide) (fun q115 => ?_) (fun q115 => ?_)
    · have h := h.1 q115
      refine lv_iconst (v := (0 : Int32)) hx hb dX6_count_122 (by decide) ?_
      exact wX6_count_b123 hF hSt hret hag101 x3 (0 : Int32) x2 H locs ls hH (lv_sub hl [0, 2] rfl) h
    · have h := h.2 q115
      refine lv_iconst (v := (1 : Int32)) hx hb dX6_count_118 (by decide) ?_
      refine lv_goto (tgt := 123) hx hb dX6_count_119 (by decide) ?_
      exact wX6_count_b123 hF hSt hret hag101 x3 (1 : Int32) x2 H locs ls hH (lv_sub hl [0, 2] rfl) h
def pX6_count_L101 (M : zM) (post : Int32 → Prop) (x2 : Int32) (x3 : Int32) : Prop :=
  ∃ I : Nat → Int32 → Int32 → Prop, (∃ n, I n x2 x3) ∧ ∀ n x2 x3, I n x2 x3 → pX6_count_b101 M post (fun x2 x3 => ∃ k, k < n ∧ I k x2 x3) x2 x3
set_option maxHeartbeats 4000000 in
theorem wX6_count_L101 {M : zM} {post : Int32 → Prop}  (hF : CallFix p m c cX6_count 4 s args wsX6_count RX6) (hSt : zSt G s) (hret : zRi p l e ({ frames := 3, cells := 0, slots := 0, locals := 67 } : Room) s m args below meth c Q cX6_count G false O (fun r M1 => M1 = M ∧ post r)) (x2 : Int32) (x3 : Int32) (H : Heap) (locs : List Loc) (ls : Array Slot) (hH : zH G false s H locs M O) (hl : lv_has ls 4 [(0, .ref (G.1 21)), (2, .int x2), (3, .int x3)]) (h : pX6_count_L101 M post x2 x3) : W p l e ({ frames := 3, cells := 0, slots := 0, locals := 67 } : Room) s m args below meth c H locs 0 0 Q (F0 m 101 ls []) := by
  obtain ⟨I, ⟨n, hI⟩, hs⟩ := h
  have key : ∀ (n : Nat) (x2 : Int32) (x3 : Int32) (H : Heap) (locs : List Loc) (ls : Array Slot), I n x2 x3 → zH G false s H locs M O → lv_has ls 4 [(0, .ref (G.1 21)), (2, .int x2), (3, .int x3)] → W p l e ({ frames := 3, cells := 0, slots := 0, locals := 67 } : Room) s m args below meth c H locs 0 0 Q (F0 m 101 ls []) := by
    intro n
    induction n using Nat.strongRecOn with
    | _ n ih =>
      intro x2 x3 H locs ls hI hH hl
      exact wX6_count_b101 hF hSt hret (fun x2 x3 H locs ls h hH hl => by obtain ⟨k, hk, hI⟩ := h; exact ih k hk x2 x3 H locs ls hI hH hl) x2 x3 H locs ls hH hl (hs n x2 x3 hI)
  exact key n x2 x3 H locs ls hI hH hl
def pX6_count_b135 (M : zM) (post : Int32 → Prop) (ag135 : Int32 → Int32 → Prop) (x2 : Int32) (x3 : Int32) : Prop :=
  ((M.1 21 2) ≤ x3 → post x2) ∧ (¬ ((M.1 21 2) ≤ x3) → pX6_ins M x3 (fun r146 => ag135 (x2 + r146) (x3 + (1 : Int32))))
set_option maxHeartbeats 4000000 in
set_option maxRecDepth 100000 in
theorem wX6_count_b135 {M : zM} {post : Int32 → Prop} {ag135 : Int32 → Int32 → Prop} (hF : CallFix p m c cX6_count 4 s args wsX6_count RX6) (hSt : zSt G s) (hret : zRi p l e ({ frames := 3, cells := 0, slots := 0, locals := 67 } : Room) s m args below meth c Q cX6_count G false O (fun r M1 => M1 = M ∧ post r)) (hag135 : ∀ (x2 : Int32) (x3 : Int32) (H : Heap) (locs : List Loc) (ls : Array Slot), ag135 x2 x3 → zH G false s H locs M O → lv_has ls 4 [(0, .ref (G.1 21)), (2, .int x2), (3, .int x3)] → W p l e ({ frames := 3, cells := 0, slots := 0, locals := 67 } : Room) s m args below meth c H locs 0 0 Q (F0 m 135 ls [])) (x2 : Int32) (x3 : Int32) (H : Heap) (locs : List Loc) (ls : Array Slot) (hH : zH G false s H locs M O) (hl : lv_has ls 4 [(0, .ref (G.1 21)), (2, .int x2), (3, .int x3)]) (h : pX6_count_b135 M post ag135 x2 x3) : W p l e ({ frames := 3, cells := 0, slots := 0, locals := 67 } : Room) s m args below meth c H locs 0 0 Q (F0 m 135 ls []) := by
  obtain ⟨hx, hb, hml, hown, hts⟩ := id hF
  unfold pX6_count_b135 at h
  refine lv_iload_n hx hb dX6_count_135 rfl (lv_at hl 2 rfl) ?_
  refine lv_aload_n hx hb dX6_count_136 rfl (lv_at hl 0 rfl) ?_
  refine zget (v := .int (M.1 21 2)) hF hSt hH 21 (by decide) rfl (zE_21 _ _ _) (C := RX6) (T := TX6) (N := 31) rfl znX6_count_X6 2 (by decide) (List.mem_of_getElem? (i := 2) rfl) rfl dX6_count_137 ?_
  refine lv_icmp_ge (tgt := 157) hx hb dX6_count_140 (by decide) (fun q140 => ?_) (fun q140 => ?_)
  · have h := h.1 q140
    refine lv_iload_n hx hb dX6_count_157 rfl (lv_at hl 1 rfl) ?_
    exact hret _ _ _ _ _ _ dX6_count_158 ⟨rfl, h⟩ hH
  · have h := h.2 q140
    refine lv_iload_n hx hb dX6_count_143 rfl (lv_at hl 1 rfl) ?_
    refine lv_aload_n hx hb dX6_count_144 rfl (lv_at hl 0 rfl) ?_
    refine lv_iload_n hx hb dX6_count_145 rfl (lv_at hl 2 rfl) ?_
    refine zcalliP hH (va_runV (As := [.int x3]) (rest := [.int x2]) hF (kX6_ins l G M O x3 _ h) (cwV 1 hts gX6_count_X6_ins rfl rfl rfl ⟨rfl, zdX6_ins⟩ ⟨Nat.le_of_ble_eq_true rfl, Nat.le_of_ble_eq_true rfl⟩) (zpreV hSt hH 21 (by decide) rfl (zE_21 _ _ _) (q := (RX6, TX6, 31)) rfl [.int x3]) rfl rfl hl.1 rfl (lv_room (Nat.le_of_ble_eq_true rfl)) dX6_count_146 ⟨Nat.zero_le _, Nat.zero_le _⟩) (fun r146 H locs h hH => ?_)
    refine lv_iadd hx hb dX6_count_149 ?_
    refine lv_istore_n (lv' := [(2, .int (x2 + r146)), (0, .ref (G.1 21)), (3, .int x3)]) hx hb dX6_count_150 rfl hl (by decide) rfl (fun ls hl => ?_)
    refine lv_iinc (v := (x3 + (1 : Int32))) (lv' := [(3, .int (x3 + (1 : Int32))), (2, .int (x2 + r146)), (0, .ref (G.1 21))]) hx hb dX6_count_151 hl (k := 2) rfl rfl (by decide) rfl (fun ls hl => ?_)
    refine lv_goto (tgt := 135) hx hb dX6_count_154 (by decide) ?_
    exact hag135 (x2 + r146) (x3 + (1 : Int32)) H locs ls h hH (lv_sub hl [2, 1, 0] rfl)
def pX6_count_L135 (M : zM) (post : Int32 → Prop) (x2 : Int32) (x3 : Int32) : Prop :=
  ∃ I : Nat → Int32 → Int32 → Prop, (∃ n, I n x2 x3) ∧ ∀ n x2 x3, I n x2 x3 → pX6_count_b135 M post (fun x2 x3 => ∃ k, k < n ∧ I k x2 x3) x2 x3
set_option maxHeartbeats 4000000 in
theorem wX6_count_L135 {M : zM} {post : Int32 → Prop}  (hF : CallFix p m c cX6_count 4 s args wsX6_count RX6) (hSt : zSt G s) (hret : zRi p l e ({ frames := 3, cells := 0, slots := 0, locals := 67 } : Room) s m args below meth c Q cX6_count G false O (fun r M1 => M1 = M ∧ post r)) (x2 : Int32) (x3 : Int32) (H : Heap) (locs : List Loc) (ls : Array Slot) (hH : zH G false s H locs M O) (hl : lv_has ls 4 [(0, .ref (G.1 21)), (2, .int x2), (3, .int x3)]) (h : pX6_count_L135 M post x2 x3) : W p l e ({ frames := 3, cells := 0, slots := 0, locals := 67 } : Room) s m args below meth c H locs 0 0 Q (F0 m 135 ls []) := by
  obtain ⟨I, ⟨n, hI⟩, hs⟩ := h
  have key : ∀ (n : Nat) (x2 : Int32) (x3 : Int32) (H : Heap) (locs : List Loc) (ls : Array Slot), I n x2 x3 → zH G false s H locs M O → lv_has ls 4 [(0, .ref (G.1 21)), (2, .int x2), (3, .int x3)] → W p l e ({ frames := 3, cells := 0, slots := 0, locals := 67 } : Room) s m args below meth c H locs 0 0 Q (F0 m 135 ls []) := by
    intro n
    induction n using Nat.strongRecOn with
    | _ n ih =>
      intro x2 x3 H locs ls hI hH hl
      exact wX6_count_b135 hF hSt hret (fun x2 x3 H locs ls h hH hl => by obtain ⟨k, hk, hI⟩ := h; exact ih k hk x2 x3 H locs ls hI hH hl) x2 x3 H locs ls hH hl (hs n x2 x3 hI)
  exact key n x2 x3 H locs ls hI hH hl
def pX6_count (M : zM) (x1 : Int32) (post : Int32 → Prop) : Prop :=
  (x1 = (0 : Int32) → post (M.1 21 1)) ∧ (x1 = (1 : Int32) → post (M.1 21 2)) ∧ (x1 = (2 : Int32) → post (M.1 21 3)) ∧ (x1 = (3 : Int32) → pX6_ends M  (fun r60 => post r60)) ∧ (x1 = (4 : Int32) → pX6_count_L66 M post (0 : Int32) (0 : Int32)) ∧ (x1 = (5 : Int32) → pX6_count_L101 M post (0 : Int32) (0 : Int32)) ∧ (x1 = (6 : Int32) → pX6_count_L135 M post (0 : Int32) (0 : Int32)) ∧ (¬ (x1 = (0 : Int32)) → ¬ (x1 = (1 : Int32)) → ¬ (x1 = (2 : Int32)) → ¬ (x1 = (3 : Int32)) → ¬ (x1 = (4 : Int32)) → ¬ (x1 = (5 : Int32)) → ¬ (x1 = (6 : Int32)) → post (-1 : Int32))
set_option maxHeartbeats 4000000 in
set_option maxRecDepth 100000 in
theorem wX6_count {M : zM} {post : Int32 → Prop} (hF : CallFix p m c cX6_count 4 s args wsX6_count RX6) (hSt : zSt G s) (hret : zRi p l e ({ frames := 3, cells := 0, slots := 0, locals := 67 } : Room) s m args below meth c Q cX6_count G false O (fun r M1 => M1 = M ∧ post r)) (x1 : Int32) (H : Heap) (locs : List Loc) (ls : Array Slot) (hH : zH G false s H locs M O) (hl : lv_has ls 4 [(0, .ref (G.1 21)), (1, .int x1)]) (h : pX6_count M x1 post) : W p l e ({ frames := 3, cells := 0, slots := 0, locals := 67 } : Room) s m args below meth c H locs 0 0 Q (F0 m 0 ls []) := by
  obtain ⟨hx, hb, hml, hown, hts⟩ := id hF
  unfold pX6_count at h
  refine lv_iconst (v := (0 : Int32)) hx hb dX6_count_0 (by decide) ?_
  refine lv_istore_n (lv' := [(2, .int (0 : Int32)), (0, .ref (G.1 21)), (1, .int x1)]) hx hb dX6_count_1 rfl hl (by decide) rfl (fun ls hl => ?_)
  refine lv_iload_n hx hb dX6_count_2 rfl (lv_at hl 2 rfl) ?_
  by_cases q3_0 : x1 = (0 : Int32)
  · have h := h.1 q3_0
    refine lv_tableIn (off := 41) (tgt := 44) hx hb dX6_count_3 (by rw [q3_0]; decide) (by rw [q3_0]; decide) (by rw [q3_0]; decide) (by decide) ?_
    refine lv_aload_n hx hb dX6_count_44 rfl (lv_at hl 1 rfl) ?_
    refine zget (v := .int (M.1 21 1)) hF hSt hH 21 (by decide) rfl (zE_21 _ _ _) (C := RX6) (T := TX6) (N := 31) rfl znX6_count_X6 1 (by decide) (List.mem_of_getElem? (i := 1) rfl) rfl dX6_count_45 ?_
    exact hret _ _ _ _ _ _ dX6_count_48 ⟨rfl, h⟩ hH
  · have h := h.2
    by_cases q3_1 : x1 = (1 : Int32)
    · have h := h.1 q3_1
      refine lv_tableIn (off := 46) (tgt := 49) hx hb dX6_count_3 (by rw [q3_1]; decide) (by rw [q3_1]; decide) (by rw [q3_1]; decide) (by decide) ?_
      refine lv_aload_n hx hb dX6_count_49 rfl (lv_at hl 1 rfl) ?_
      refine zget (v := .int (M.1 21 2)) hF hSt hH 21 (by decide) rfl (zE_21 _ _ _) (C := RX6) (T := TX6) (N := 31) rfl znX6_count_X6 2 (by decide) (List.mem_of_getElem? (i := 2) rfl) rfl dX6_count_50 ?_
      exact hret _ _ _ _ _ _ dX6_count_53 ⟨rfl, h⟩ hH
    · have h := h.2
      by_cases q3_2 : x1 = (2 : Int32)
      · have h := h.1 q3_2
        refine lv_tableIn (off := 51) (tgt := 54) hx hb dX6_count_3 (by rw [q3_2]; decide) (by rw [q3_2]; decide) (by rw [q3_2]; decide) (by decide) ?_
        refine lv_aload_n hx hb dX6_count_54 rfl (lv_at hl 1 rfl) ?_
        refine zget (v := .int (M.1 21 3)) hF hSt hH 21 (by decide) rfl (zE_21 _ _ _) (C := RX6) (T := TX6) (N := 31) rfl znX6_count_X6 3 (by decide) (List.mem_of_getElem? (i := 3) rfl) rfl dX6_count_55 ?_
        exact hret _ _ _ _ _ _ dX6_count_58 ⟨rfl, h⟩ hH
      · have h := h.2
        by_cases q3_3 : x1 = (3 : Int32)
        · have h := h.1 q3_3
          refine lv_tableIn (off := 56) (tgt := 59) hx hb dX6_count_3 (by rw [q3_3]; decide) (by rw [q3_3]; decide) (by rw [q3_3]; decide) (by decide) ?_
          refine lv_aload_n hx hb dX6_count_59 rfl (lv_at hl 1 rfl) ?_
          refine zcalliP hH (va_runV (As := []) (rest := []) hF (kX6_ends l G M O _ h) (cwV 0 hts gX6_count_X6_ends rfl rfl rfl ⟨rfl, zdX6_ends⟩ ⟨Nat.le_of_ble_eq_true rfl, Nat.le_of_ble_eq_true rfl⟩) (zpreV hSt hH 21 (by decide) rfl (zE_21 _ _ _) (q := (RX6, TX6, 31)) rfl []) rfl rfl hl.1 rfl (lv_room (Nat.le_of_ble_eq_true rfl)) dX6_count_60 ⟨Nat.zero_le _, Nat.zero_le _⟩) (fun r60 H locs h hH => ?_)
          exact hret _ _ _ _ _ _ dX6_count_63 ⟨rfl, h⟩ hH
        · have h := h.2
          by_cases q3_4 : x1 = (4 : Int32)
          · have h := h.1 q3_4
            refine lv_tableIn (off := 61) (tgt := 64) hx hb dX6_count_3 (by rw [q3_4]; decide) (by rw [q3_4]; decide) (by rw [q3_4]; decide) (by decide) ?_
            refine lv_iconst (v := (0 : Int32)) hx hb dX6_count_64 (by decide) ?_
            refine lv_istore_n (lv' := [(3, .int (0 : Int32)), (2, .int (0 : Int32)), (0, .ref (G.1 21)), (1, .int x1)]) hx hb dX6_count_65 rfl hl (by decide) rfl (fun ls hl => ?_)
            exact wX6_count_L66 hF hSt hret (0 : Int32) (0 : Int32) H locs ls hH (lv_sub hl [2, 1, 0] rfl) h
          · have h := h.2
            by_cases q3_5 : x1 = (5 : Int32)
            · have h := h.1 q3_5
              refine lv_tableIn (off := 96) (tgt := 99) hx hb dX6_count_3 (by rw [q3_5]; decide) (by rw [q3_5]; decide) (by rw [q3_5]; decide) (by decide) ?_
              refine lv_iconst (v := (0 : Int32)) hx hb dX6_count_99 (by decide) ?_
              refine lv_istore_n (lv' := [(3, .int (0 : Int32)), (2, .int (0 : Int32)), (0, .ref (G.1 21)), (1, .int x1)]) hx hb dX6_count_100 rfl hl (by decide) rfl (fun ls hl => ?_)
              exact wX6_count_L101 hF hSt hret (0 : Int32) (0 : Int32) H locs ls hH (lv_sub hl [2, 1, 0] rfl) h
            · have h := h.2
              by_cases q3_6 : x1 = (6 : Int32)
              · have h := h.1 q3_6
                refine lv_tableIn (off := 130) (tgt := 133) hx hb dX6_count_3 (by rw [q3_6]; decide) (by rw [q3_6]; decide) (by rw [q3_6]; decide) (by decide) ?_
                refine lv_iconst (v := (0 : Int32)) hx hb dX6_count_133 (by decide) ?_
                refine lv_istore_n (lv' := [(3, .int (0 : Int32)), (2, .int (0 : Int32)), (0, .ref (G.1 21)), (1, .int x1)]) hx hb dX6_count_134 rfl hl (by decide) rfl (fun ls hl => ?_)
                exact wX6_count_L135 hF hSt hret (0 : Int32) (0 : Int32) H locs ls hH (lv_sub hl [2, 1, 0] rfl) h
              · have h := h.2
                have h := h q3_0 q3_1 q3_2 q3_3 q3_4 q3_5 q3_6
                refine lv_tableOut (tgt := 159) hx hb dX6_count_3 (by have n0 := lv_neT q3_0 (a := 0) (by decide); have n1 := lv_neT q3_1 (a := 1) (by decide); have n2 := lv_neT q3_2 (a := 2) (by decide); have n3 := lv_neT q3_3 (a := 3) (by decide); have n4 := lv_neT q3_4 (a := 4) (by decide); have n5 := lv_neT q3_5 (a := 5) (by decide); have n6 := lv_neT q3_6 (a := 6) (by decide); omega) (by decide) ?_
                refine lv_iconst (v := (-1 : Int32)) hx hb dX6_count_159 (by decide) ?_
                exact hret _ _ _ _ _ _ dX6_count_160 ⟨rfl, h⟩ hH
set_option maxRecDepth 100000 in
theorem kX6_count (l : Launch) (G : zG) (M O : zM) (x1 : Int32) (post : Int32 → Prop) (h : pX6_count M x1 post) : Met l yX6_count wsX6_count ({ frames := 3, cells := 0, slots := 0, locals := 67 } : Room) (zPc G false M O [.ref (G.1 21), .int x1]) (va_Qi (fun r M1 => M1 = M ∧ post r) (zB G false O) (zAA G)) 0 0 (zAA G) :=
  zmet_i (by decide) rfl (Nat.le_of_ble_eq_true rfl) (fun hF hSt hret H locs ls hH hl => wX6_count hF hSt hret x1 H locs ls hH hl h)
end
