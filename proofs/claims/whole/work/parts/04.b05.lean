theorem znX6_study_X6 : ∀ w ∈ wsX60, w ∈ wsX6_study := fun _ h => List.mem_cons_of_mem _ (List.mem_append_right _ h)
theorem zdX6_study : yX6_study.cls ≠ "java/lang/invoke/MethodHandle" ∧ yX6_study.cls ≠ "java/lang/invoke/VarHandle" ∧ (parseMethodDescriptor yX6_study.desc).map (fun d => d.parameters.length) = some 1 := by decide +kernel
-- MixingRelaysModel study(I)V
section
variable {p : Program} {l : Launch} {e : Env} {s : State} {m : MethodId} {args : Array Value} {below : List Frame} {meth : Method} {c : Code} {Q : State → Prop} {G : zG} {O : zM}
def pX6_study_b101 (post : zM → Prop) (ag7 : Int32 → Int32 → zM → Prop) (x1 : Int32) (x2 : Int32) (M : zM) : Prop :=
  ag7 x1 (x2 + (1 : Int32)) M
set_option maxHeartbeats 4000000 in
set_option maxRecDepth 100000 in
theorem wX6_study_b101 {post : zM → Prop} {ag7 : Int32 → Int32 → zM → Prop} (hF : CallFix p m c cX6_study 4 s args wsX6_study RX6) (hSt : zSt G s) (hret : zRv p l e ({ frames := 3, cells := 0, slots := 0, locals := 72 } : Room) s m args below meth c Q cX6_study G false O post) (hag7 : ∀ (x1 : Int32) (x2 : Int32) (M : zM) (H : Heap) (locs : List Loc) (ls : Array Slot), ag7 x1 x2 M → zH G false s H locs M O → lv_has ls 4 [(0, .ref (G.1 21)), (1, .int x1), (2, .int x2)] → W p l e ({ frames := 3, cells := 0, slots := 0, locals := 72 } : Room) s m args below meth c H locs 0 0 Q (F0 m 7 ls [])) (x1 : Int32) (x2 : Int32) (M : zM) (H : Heap) (locs : List Loc) (ls : Array Slot) (hH : zH G false s H locs M O) (hl : lv_has ls 4 [(0, .ref (G.1 21)), (1, .int x1), (2, .int x2)]) (h : pX6_study_b101 post ag7 x1 x2 M) : W p l e ({ frames := 3, cells := 0, slots := 0, locals := 72 } : Room) s m args below meth c H locs 0 0 Q (F0 m 101 ls []) := by
  obtain ⟨hx, hb, hml, hown, hts⟩ := id hF
  unfold pX6_study_b101 at h
  refine lv_iinc (v := (x2 + (1 : Int32))) (lv' := [(2, .int (x2 + (1 : Int32))), (0, .ref (G.1 21)), (1, .int x1)]) hx hb dX6_study_101 hl (k := 2) rfl rfl (by decide) rfl (fun ls hl => ?_)
  refine lv_goto (tgt := 7) hx hb dX6_study_104 (by decide) ?_
  exact hag7 x1 (x2 + (1 : Int32)) M H locs ls h hH (lv_sub hl [1, 2, 0] rfl)
def pX6_study_b63 (post : zM → Prop) (ag7 : Int32 → Int32 → zM → Prop) (ag30 : Int32 → Int32 → Int32 → zM → Prop) (x1 : Int32) (x2 : Int32) (x3 : Int32) (t0 : Int32) (t1 : Int32) (M : zM) : Prop :=
  vp_in t1 9 ∧ ag30 x1 x2 (x3 + (1 : Int32)) (zsi M 38 t1.toNatClampNeg t0)
set_option maxHeartbeats 4000000 in
set_option maxRecDepth 100000 in
theorem wX6_study_b63 {post : zM → Prop} {ag7 : Int32 → Int32 → zM → Prop} {ag30 : Int32 → Int32 → Int32 → zM → Prop} (hF : CallFix p m c cX6_study 4 s args wsX6_study RX6) (hSt : zSt G s) (hret : zRv p l e ({ frames := 3, cells := 0, slots := 0, locals := 72 } : Room) s m args below meth c Q cX6_study G false O post) (hag7 : ∀ (x1 : Int32) (x2 : Int32) (M : zM) (H : Heap) (locs : List Loc) (ls : Array Slot), ag7 x1 x2 M → zH G false s H locs M O → lv_has ls 4 [(0, .ref (G.1 21)), (1, .int x1), (2, .int x2)] → W p l e ({ frames := 3, cells := 0, slots := 0, locals := 72 } : Room) s m args below meth c H locs 0 0 Q (F0 m 7 ls [])) (hag30 : ∀ (x1 : Int32) (x2 : Int32) (x3 : Int32) (M : zM) (H : Heap) (locs : List Loc) (ls : Array Slot), ag30 x1 x2 x3 M → zH G false s H locs M O → lv_has ls 4 [(0, .ref (G.1 21)), (1, .int x1), (2, .int x2), (3, .int x3)] → W p l e ({ frames := 3, cells := 0, slots := 0, locals := 72 } : Room) s m args below meth c H locs 0 0 Q (F0 m 30 ls [])) (x1 : Int32) (x2 : Int32) (x3 : Int32) (t0 : Int32) (t1 : Int32) (M : zM) (H : Heap) (locs : List Loc) (ls : Array Slot) (hH : zH G false s H locs M O) (hl : lv_has ls 4 [(0, .ref (G.1 21)), (1, .int x1), (2, .int x2), (3, .int x3)]) (h : pX6_study_b63 post ag7 ag30 x1 x2 x3 t0 t1 M) : W p l e ({ frames := 3, cells := 0, slots := 0, locals := 72 } : Room) s m args below meth c H locs 0 0 Q (F0 m 63 ls [.int t0, .int t1, .ref (G.1 38)]) := by
  obtain ⟨hx, hb, hml, hown, hts⟩ := id hF
  unfold pX6_study_b63 at h
  obtain ⟨q63, h⟩ := h
  refine zast hF hSt hH 38 (by decide) rfl (zE_38 _) (x := t0) q63 dX6_study_63 (fun H locs hH => ?_)
  refine lv_iinc (v := (x3 + (1 : Int32))) (lv' := [(3, .int (x3 + (1 : Int32))), (0, .ref (G.1 21)), (1, .int x1), (2, .int x2)]) hx hb dX6_study_64 hl (k := 3) rfl rfl (by decide) rfl (fun ls hl => ?_)
  refine lv_goto (tgt := 30) hx hb dX6_study_67 (by decide) ?_
  exact hag30 x1 x2 (x3 + (1 : Int32)) (zsi M 38 t1.toNatClampNeg t0) H locs ls h hH (lv_sub hl [1, 2, 3, 0] rfl)
def pX6_study_b30 (post : zM → Prop) (ag7 : Int32 → Int32 → zM → Prop) (ag30 : Int32 → Int32 → Int32 → zM → Prop) (x1 : Int32) (x2 : Int32) (x3 : Int32) (M : zM) : Prop :=
  ((9 : Int32) ≤ x3 → vp_in ((4 : Int32) + (M.1 21 22)) 9 ∧ pX6_steps (zsi M 38 (((4 : Int32) + (M.1 21 22))).toNatClampNeg (1 : Int32))  (fun r83 M83 => (r83 = 0 → pX6_study_b101 post ag7 x1 x2 M83) ∧ (¬ (r83 = 0) → vp_in ((M83.1 21 22) - (1 : Int32)) 4 ∧ pX6_study_b101 post ag7 x1 x2 (zsi M83 37 (((M83.1 21 22) - (1 : Int32))).toNatClampNeg x2)))) ∧ (¬ ((9 : Int32) ≤ x3) → ((M.1 21 3) ≤ x3 → pX6_study_b63 post ag7 ag30 x1 x2 x3 (0 : Int32) x3 M) ∧ (¬ ((M.1 21 3) ≤ x3) → vp_in (((4 : Int32) * x2) + x3) 120 ∧ pX6_study_b63 post ag7 ag30 x1 x2 x3 (M.1 33 ((((4 : Int32) * x2) + x3)).toNatClampNeg) x3 M))
set_option maxHeartbeats 4000000 in
set_option maxRecDepth 100000 in
theorem wX6_study_b30 {post : zM → Prop} {ag7 : Int32 → Int32 → zM → Prop} {ag30 : Int32 → Int32 → Int32 → zM → Prop} (hF : CallFix p m c cX6_study 4 s args wsX6_study RX6) (hSt : zSt G s) (hret : zRv p l e ({ frames := 3, cells := 0, slots := 0, locals := 72 } : Room) s m args below meth c Q cX6_study G false O post) (hag7 : ∀ (x1 : Int32) (x2 : Int32) (M : zM) (H : Heap) (locs : List Loc) (ls : Array Slot), ag7 x1 x2 M → zH G false s H locs M O → lv_has ls 4 [(0, .ref (G.1 21)), (1, .int x1), (2, .int x2)] → W p l e ({ frames := 3, cells := 0, slots := 0, locals := 72 } : Room) s m args below meth c H locs 0 0 Q (F0 m 7 ls [])) (hag30 : ∀ (x1 : Int32) (x2 : Int32) (x3 : Int32) (M : zM) (H : Heap) (locs : List Loc) (ls : Array Slot), ag30 x1 x2 x3 M → zH G false s H locs M O → lv_has ls 4 [(0, .ref (G.1 21)), (1, .int x1), (2, .int x2), (3, .int x3)] → W p l e ({ frames := 3, cells := 0, slots := 0, locals := 72 } : Room) s m args below meth c H locs 0 0 Q (F0 m 30 ls [])) (x1 : Int32) (x2 : Int32) (x3 : Int32) (M : zM) (H : Heap) (locs : List Loc) (ls : Array Slot) (hH : zH G false s H locs M O) (hl : lv_has ls 4 [(0, .ref (G.1 21)), (1, .int x1), (2, .int x2), (3, .int x3)]) (h : pX6_study_b30 post ag7 ag30 x1 x2 x3 M) : W p l e ({ frames := 3, cells := 0, slots := 0, locals := 72 } : Room) s m args below meth c H locs 0 0 Q (F0 m 30 ls []) := by
  obtain ⟨hx, hb, hml, hown, hts⟩ := id hF
  unfold pX6_study_b30 at h
  refine lv_iload_n hx hb dX6_study_30 rfl (lv_at hl 3 rfl) ?_
  refine lv_bipush (v := (9 : Int32)) hx hb dX6_study_31 (by decide) ?_
  refine lv_icmp_ge (tgt := 70) hx hb dX6_study_33 (by decide) (fun q33 => ?_) (fun q33 => ?_)
  · have h := h.1 q33
    refine lv_aload_n hx hb dX6_study_70 rfl (lv_at hl 0 rfl) ?_
    refine zget (v := .ref (G.1 38)) hF hSt hH 21 (by decide) rfl (zE_21 _ _ _) (C := RX6) (T := TX6) (N := 31) rfl znX6_study_X6 23 (by decide) (List.mem_of_getElem? (i := 4) rfl) rfl dX6_study_71 ?_
    refine lv_iconst (v := (4 : Int32)) hx hb dX6_study_74 (by decide) ?_
    refine lv_aload_n hx hb dX6_study_75 rfl (lv_at hl 0 rfl) ?_
    refine zget (v := .int (M.1 21 22)) hF hSt hH 21 (by decide) rfl (zE_21 _ _ _) (C := RX6) (T := TX6) (N := 31) rfl znX6_study_X6 22 (by decide) (List.mem_of_getElem? (i := 1) rfl) rfl dX6_study_76 ?_
    refine lv_iadd hx hb dX6_study_79 ?_
    refine lv_iconst (v := (1 : Int32)) hx hb dX6_study_80 (by decide) ?_
    obtain ⟨q81, h⟩ := h
    refine zast hF hSt hH 38 (by decide) rfl (zE_38 _) (x := (1 : Int32)) q81 dX6_study_81 (fun H locs hH => ?_)
    refine lv_aload_n hx hb dX6_study_82 rfl (lv_at hl 0 rfl) ?_
    refine zcalli hH (va_runV (As := []) (rest := []) hF (kX6_steps l G (zsi M 38 (((4 : Int32) + (M.1 21 22))).toNatClampNeg (1 : Int32)) O _ h) (cwV 0 hts gX6_study_X6_steps rfl rfl rfl ⟨rfl, zdX6_steps⟩ ⟨Nat.le_of_ble_eq_true rfl, Nat.le_of_ble_eq_true rfl⟩) (zpreV hSt hH 21 (by decide) rfl (zE_21 _ _ _) (q := (RX6, TX6, 31)) rfl []) rfl rfl hl.1 rfl (lv_room (Nat.le_of_ble_eq_true rfl)) dX6_study_83 ⟨Nat.zero_le _, Nat.zero_le _⟩) (fun r83 M83 H locs h hH => ?_)
    refine lv_if_eq (tgt := 101) hx hb dX6_study_86 (by decide) (fun q86 => ?_) (fun q86 => ?_)
    · have h := h.1 q86
      exact wX6_study_b101 hF hSt hret hag7 x1 x2 M83 H locs ls hH (lv_sub hl [0, 1, 2] rfl) h
    · have h := h.2 q86
      refine lv_aload_n hx hb dX6_study_89 rfl (lv_at hl 0 rfl) ?_
      refine zget (v := .ref (G.1 37)) hF hSt hH 21 (by decide) rfl (zE_21 _ _ _) (C := RX6) (T := TX6) (N := 31) rfl znX6_study_X6 21 (by decide) (List.mem_of_getElem? (i := 7) rfl) rfl dX6_study_90 ?_
      refine lv_aload_n hx hb dX6_study_93 rfl (lv_at hl 0 rfl) ?_
      refine zget (v := .int (M83.1 21 22)) hF hSt hH 21 (by decide) rfl (zE_21 _ _ _) (C := RX6) (T := TX6) (N := 31) rfl znX6_study_X6 22 (by decide) (List.mem_of_getElem? (i := 1) rfl) rfl dX6_study_94 ?_
      refine lv_iconst (v := (1 : Int32)) hx hb dX6_study_97 (by decide) ?_
      refine lv_isub hx hb dX6_study_98 ?_
      refine lv_iload_n hx hb dX6_study_99 rfl (lv_at hl 2 rfl) ?_
      obtain ⟨q100, h⟩ := h
      refine zast hF hSt hH 37 (by decide) rfl (zE_37 _) (x := x2) q100 dX6_study_100 (fun H locs hH => ?_)
      exact wX6_study_b101 hF hSt hret hag7 x1 x2 (zsi M83 37 (((M83.1 21 22) - (1 : Int32))).toNatClampNeg x2) H locs ls hH (lv_sub hl [0, 1, 2] rfl) h
  · have h := h.2 q33
    refine lv_aload_n hx hb dX6_study_36 rfl (lv_at hl 0 rfl) ?_
    refine zget (v := .ref (G.1 38)) hF hSt hH 21 (by decide) rfl (zE_21 _ _ _) (C := RX6) (T := TX6) (N := 31) rfl znX6_study_X6 23 (by decide) (List.mem_of_getElem? (i := 4) rfl) rfl dX6_study_37 ?_
    refine lv_iload_n hx hb dX6_study_40 rfl (lv_at hl 3 rfl) ?_
    refine lv_iload_n hx hb dX6_study_41 rfl (lv_at hl 3 rfl) ?_
    refine lv_aload_n hx hb dX6_study_42 rfl (lv_at hl 0 rfl) ?_
    refine zget (v := .int (M.1 21 3)) hF hSt hH 21 (by decide) rfl (zE_21 _ _ _) (C := RX6) (T := TX6) (N := 31) rfl znX6_study_X6 3 (by decide) (List.mem_of_getElem? (i := 5) rfl) rfl dX6_study_43 ?_
    refine lv_icmp_ge (tgt := 62) hx hb dX6_study_46 (by decide) (fun q46 => ?_) (fun q46 => ?_)
    · have h := h.1 q46
      refine lv_iconst (v := (0 : Int32)) hx hb dX6_study_62 (by decide) ?_
      exact wX6_study_b63 hF hSt hret hag7 hag30 x1 x2 x3 (0 : Int32) x3 M H locs ls hH (lv_sub hl [0, 1, 2, 3] rfl) h
    · have h := h.2 q46
      refine lv_aload_n hx hb dX6_study_49 rfl (lv_at hl 0 rfl) ?_
      refine zget (v := .ref (G.1 33)) hF hSt hH 21 (by decide) rfl (zE_21 _ _ _) (C := RX6) (T := TX6) (N := 31) rfl znX6_study_X6 15 (by decide) (List.mem_of_getElem? (i := 6) rfl) rfl dX6_study_50 ?_
      refine lv_iconst (v := (4 : Int32)) hx hb dX6_study_53 (by decide) ?_
      refine lv_iload_n hx hb dX6_study_54 rfl (lv_at hl 2 rfl) ?_
      refine lv_imul hx hb dX6_study_55 ?_
      refine lv_iload_n hx hb dX6_study_56 rfl (lv_at hl 3 rfl) ?_
      refine lv_iadd hx hb dX6_study_57 ?_
      obtain ⟨q58, h⟩ := h
      refine zald hF hSt hH 33 (by decide) rfl (zE_33 _ _ _) q58 dX6_study_58 ?_
      refine lv_goto (tgt := 63) hx hb dX6_study_59 (by decide) ?_
      exact wX6_study_b63 hF hSt hret hag7 hag30 x1 x2 x3 (M.1 33 ((((4 : Int32) * x2) + x3)).toNatClampNeg) x3 M H locs ls hH (lv_sub hl [0, 1, 2, 3] rfl) h
def pX6_study_L30 (post : zM → Prop) (ag7 : Int32 → Int32 → zM → Prop) (x1 : Int32) (x2 : Int32) (x3 : Int32) (M : zM) : Prop :=
  ∃ I : Nat → Int32 → Int32 → Int32 → zM → Prop, (∃ n, I n x1 x2 x3 M) ∧ ∀ n x1 x2 x3 M, I n x1 x2 x3 M → pX6_study_b30 post ag7 (fun x1 x2 x3 M => ∃ k, k < n ∧ I k x1 x2 x3 M) x1 x2 x3 M
set_option maxHeartbeats 4000000 in
theorem wX6_study_L30 {post : zM → Prop} {ag7 : Int32 → Int32 → zM → Prop} (hF : CallFix p m c cX6_study 4 s args wsX6_study RX6) (hSt : zSt G s) (hret : zRv p l e ({ frames := 3, cells := 0, slots := 0, locals := 72 } : Room) s m args below meth c Q cX6_study G false O post) (hag7 : ∀ (x1 : Int32) (x2 : Int32) (M : zM) (H : Heap) (locs : List Loc) (ls : Array Slot), ag7 x1 x2 M → zH G false s H locs M O → lv_has ls 4 [(0, .ref (G.1 21)), (1, .int x1), (2, .int x2)] → W p l e ({ frames := 3, cells := 0, slots := 0, locals := 72 } : Room) s m args below meth c H locs 0 0 Q (F0 m 7 ls [])) (x1 : Int32) (x2 : Int32) (x3 : Int32) (M : zM) (H : Heap) (locs : List Loc) (ls : Array Slot) (hH : zH G false s H locs M O) (hl : lv_has ls 4 [(0, .ref (G.1 21)), (1, .int x1), (2, .int x2), (3, .int x3)]) (h : pX6_study_L30 post ag7 x1 x2 x3 M) : W p l e ({ frames := 3, cells := 0, slots := 0, locals := 72 } : Room) s m args below meth c H locs 0 0 Q (F0 m 30 ls []) := by
  obtain ⟨I, ⟨n, hI⟩, hs⟩ := h
  have key : ∀ (n : Nat) (x1 : Int32) (x2 : Int32) (x3 : Int32) (M : zM) (H : Heap) (locs : List Loc) (ls : Array Slot), I n x1 x2 x3 M → zH G false s H locs M O → lv_has ls 4 [(0, .ref (G.1 21)), (1, .int x1), (2, .int x2), (3, .int x3)] → W p l e ({ frames := 3, cells := 0, slots := 0, locals := 72 } : Room) s m args below meth c H locs 0 0 Q (F0 m 30 ls []) := by
    intro n
    induction n using Nat.strongRecOn with
    | _ n ih =>
      intro x1 x2 x3 M H locs ls hI hH hl
      exact wX6_study_b30 hF hSt hret hag7 (fun x1 x2 x3 M H locs ls h hH hl => by obtain ⟨k, hk, hI⟩ := h; exact ih k hk x1 x2 x3 M H locs ls hI hH hl) x1 x2 x3 M H locs ls hH hl (hs n x1 x2 x3 M hI)
  exact key n x1 x2 x3 M H locs ls hI hH hl
def pX6_study_b7 (post : zM → Prop) (ag7 : Int32 → Int32 → zM → Prop) (x1 : Int32) (x2 : Int32) (M : zM) : Prop :=
  ((M.1 21 2) ≤ x2 → post M) ∧ (¬ ((M.1 21 2) ≤ x2) → vp_in x2 30 ∧ ((M.1 25 x2.toNatClampNeg) = x1 → pX6_study_L30 post ag7 x1 x2 (0 : Int32) M) ∧ (¬ ((M.1 25 x2.toNatClampNeg) = x1) → pX6_study_b101 post ag7 x1 x2 M))
set_option maxHeartbeats 4000000 in
set_option maxRecDepth 100000 in
theorem wX6_study_b7 {post : zM → Prop} {ag7 : Int32 → Int32 → zM → Prop} (hF : CallFix p m c cX6_study 4 s args wsX6_study RX6) (hSt : zSt G s) (hret : zRv p l e ({ frames := 3, cells := 0, slots := 0, locals := 72 } : Room) s m args below meth c Q cX6_study G false O post) (hag7 : ∀ (x1 : Int32) (x2 : Int32) (M : zM) (H : Heap) (locs : List Loc) (ls : Array Slot), ag7 x1 x2 M → zH G false s H locs M O → lv_has ls 4 [(0, .ref (G.1 21)), (1, .int x1), (2, .int x2)] → W p l e ({ frames := 3, cells := 0, slots := 0, locals := 72 } : Room) s m args below meth c H locs 0 0 Q (F0 m 7 ls [])) (x1 : Int32) (x2 : Int32) (M : zM) (H : Heap) (locs : List Loc) (ls : Array Slot) (hH : zH G false s H locs M O) (hl : lv_has ls 4 [(0, .ref (G.1 21)), (1, .int x1), (2, .int x2)]) (h : pX6_study_b7 post ag7 x1 x2 M) : W p l e ({ frames := 3, cells := 0, slots := 0, locals := 72 } : Room) s m args below meth c H locs 0 0 Q (F0 m 7 ls []) := by
  obtain ⟨hx, hb, hml, hown, hts⟩ := id hF
  unfold pX6_study_b7 at h
  refine lv_iload_n hx hb dX6_study_7 rfl (lv_at hl 2 rfl) ?_
  refine lv_aload_n hx hb dX6_study_8 rfl (lv_at hl 0 rfl) ?_
  refine zget (v := .int (M.1 21 2)) hF hSt hH 21 (by decide) rfl (zE_21 _ _ _) (C := RX6) (T := TX6) (N := 31) rfl znX6_study_X6 2 (by decide) (List.mem_of_getElem? (i := 2) rfl) rfl dX6_study_9 ?_
  refine lv_icmp_ge (tgt := 107) hx hb dX6_study_12 (by decide) (fun q12 => ?_) (fun q12 => ?_)
  · have h := h.1 q12
    exact hret _ _ _ _ _ dX6_study_107 h hH
  · have h := h.2 q12
    refine lv_aload_n hx hb dX6_study_15 rfl (lv_at hl 0 rfl) ?_
    refine zget (v := .ref (G.1 25)) hF hSt hH 21 (by decide) rfl (zE_21 _ _ _) (C := RX6) (T := TX6) (N := 31) rfl znX6_study_X6 7 (by decide) (List.mem_of_getElem? (i := 3) rfl) rfl dX6_study_16 ?_
    refine lv_iload_n hx hb dX6_study_19 rfl (lv_at hl 2 rfl) ?_
    obtain ⟨q20, h⟩ := h
    refine zald hF hSt hH 25 (by decide) rfl (zE_25 _ _ _) q20 dX6_study_20 ?_
    refine lv_iload_n hx hb dX6_study_21 rfl (lv_at hl 1 rfl) ?_
    refine lv_icmp_eq (tgt := 28) hx hb dX6_study_22 (by decide) (fun q22 => ?_) (fun q22 => ?_)
    · have h := h.1 q22
      refine lv_iconst (v := (0 : Int32)) hx hb dX6_study_28 (by decide) ?_
      refine lv_istore_n (lv' := [(3, .int (0 : Int32)), (0, .ref (G.1 21)), (1, .int x1), (2, .int x2)]) hx hb dX6_study_29 rfl hl (by decide) rfl (fun ls hl => ?_)
      exact wX6_study_L30 hF hSt hret hag7 x1 x2 (0 : Int32) M H locs ls hH (lv_sub hl [1, 2, 3, 0] rfl) h
    · have h := h.2 q22
      refine lv_goto (tgt := 101) hx hb dX6_study_25 (by decide) ?_
      exact wX6_study_b101 hF hSt hret hag7 x1 x2 M H locs ls hH (lv_sub hl [0, 1, 2] rfl) h
def pX6_study_L7 (post : zM → Prop) (x1 : Int32) (x2 : Int32) (M : zM) : Prop :=
  ∃ I : Nat → Int32 → Int32 → zM → Prop, (∃ n, I n x1 x2 M) ∧ ∀ n x1 x2 M, I n x1 x2 M → pX6_study_b7 post (fun x1 x2 M => ∃ k, k < n ∧ I k x1 x2 M) x1 x2 M
set_option maxHeartbeats 4000000 in
theorem wX6_study_L7 {post : zM → Prop}  (hF : CallFix p m c cX6_study 4 s args wsX6_study RX6) (hSt : zSt G s) (hret : zRv p l e ({ frames := 3, cells := 0, slots := 0, locals := 72 } : Room) s m args below meth c Q cX6_study G false O post) (x1 : Int32) (x2 : Int32) (M : zM) (H : Heap) (locs : List Loc) (ls : Array Slot) (hH : zH G false s H locs M O) (hl : lv_has ls 4 [(0, .ref (G.1 21)), (1, .int x1), (2, .int x2)]) (h : pX6_study_L7 post x1 x2 M) : W p l e ({ frames := 3, cells := 0, slots := 0, locals := 72 } : Room) s m args below meth c H locs 0 0 Q (F0 m 7 ls []) := by
  obtain ⟨I, ⟨n, hI⟩, hs⟩ := h
  have key : ∀ (n : Nat) (x1 : Int32) (x2 : Int32) (M : zM) (H : Heap) (locs : List Loc) (ls : Array Slot), I n x1 x2 M → zH G false s H locs M O → lv_has ls 4 [(0, .ref (G.1 21)), (1, .int x1), (2, .int x2)] → W p l e ({ frames := 3, cells := 0, slots := 0, locals := 72 } : Room) s m args below meth c H locs 0 0 Q (F0 m 7 ls []) := by
    intro n
    induction n using Nat.strongRecOn with
    | _ n ih =>
      intro x1 x2 M H locs ls hI hH hl
      exact wX6_study_b7 hF hSt hret (fun x1 x2 M H locs ls h hH hl => by obtain ⟨k, hk, hI⟩ := h; exact ih k hk x1 x2 M H locs ls hI hH hl) x1 x2 M H locs ls hH hl (hs n x1 x2 M hI)
  exact key n x1 x2 M H locs ls hI hH hl
def pX6_study (M : zM) (x1 : Int32) (post : zM → Prop) : Prop :=
  pX6_study_L7 post x1 (0 : Int32) (zsi M 21 22 (0 : Int32))
set_option maxHeartbeats 4000000 in
set_option maxRecDepth 100000 in
theorem wX6_study {M : zM} {post : zM → Prop} (hF : CallFix p m c cX6_study 4 s args wsX6_study RX6) (hSt : zSt G s) (hret : zRv p l e ({ frames := 3, cells := 0, slots := 0, locals := 72 } : Room) s m args below meth c Q cX6_study G false O post) (x1 : Int32) (H : Heap) (locs : List Loc) (ls : Array Slot) (hH : zH G false s H locs M O) (hl : lv_has ls 4 [(0, .ref (G.1 21)), (1, .int x1)]) (h : pX6_study M x1 post) : W p l e ({ frames := 3, cells := 0, slots := 0, locals := 72 } : Room) s m args below meth c H locs 0 0 Q (F0 m 0 ls []) := by
  obtain ⟨hx, hb, hml, hown, hts⟩ := id hF
  unfold pX6_study at h
  refine lv_aload_n hx hb dX6_study_0 rfl (lv_at hl 0 rfl) ?_
  refine lv_iconst (v := (0 : Int32)) hx hb dX6_study_1 (by decide) ?_
  refine zput hF hSt hH 21 (by decide) rfl (zE_21 _ _ _) (C := RX6) (T := TX6) (N := 31) rfl znX6_study_X6 tyX6 tyX6_ok nmX6 22 (by decide) (List.mem_of_getElem? (i := 1) rfl) rfl (by decide +kernel) (Nat.le_of_ble_eq_true rfl) (x := (0 : Int32)) rfl dX6_study_2 (fun H locs hH => ?_)
  refine lv_iconst (v := (0 : Int32)) hx hb dX6_study_5 (by decide) ?_
  refine lv_istore_n (lv' := [(2, .int (0 : Int32)), (0, .ref (G.1 21)), (1, .int x1)]) hx hb dX6_study_6 rfl hl (by decide) rfl (fun ls hl => ?_)
  exact wX6_study_L7 hF hSt hret x1 (0 : Int32) (zsi M 21 22 (0 : Int32)) H locs ls hH (lv_sub hl [1, 2, 0] rfl) h
set_option maxRecDepth 100000 in
theorem kX6_study (l : Launch) (G : zG) (M O : zM) (x1 : Int32) (post : zM → Prop) (h : pX6_study M x1 post) : Met l yX6_study wsX6_study ({ frames := 3, cells := 0, slots := 0, locals := 72 } : Room) (zPc G false M O [.ref (G.1 21), .int x1]) (va_Qv post (zB G false O) (zAA G)) 0 0 (zAA G) :=
  zmet_v (by decide) rfl (Nat.le_of_ble_eq_true rfl) (fun hF hSt hret H locs ls hH hl => wX6_study hF hSt hret x1 H locs ls hH hl h)
end
theorem znX6_rankOf_X6 : ∀ w ∈ wsX60, w ∈ wsX6_rankOf := fun _ h => List.mem_cons_of_mem _ (List.mem_append_right _ h)
theorem zdX6_rankOf : yX6_rankOf.cls ≠ "java/lang/invoke/MethodHandle" ∧ yX6_rankOf.cls ≠ "java/lang/invoke/VarHandle" ∧ (parseMethodDescriptor yX6_rankOf.desc).map (fun d => d.parameters.length) = some 1 := by decide +kernel
-- MixingRelaysModel rankOf(I)I
section
variable {p : Program} {l : Launch} {e : Env} {s : State} {m : MethodId} {args : Array Value} {below : List Frame} {meth : Method} {c : Code} {Q : State → Prop} {G : zG} {O : zM}
def pX6_rankOf (M : zM) (x1 : Int32) (post : Int32 → zM → Prop) : Prop :=
  pX6_study M x1 (fun M2 => post (M2.1 21 22) M2)
set_option maxHeartbeats 4000000 in
set_option maxRecDepth 100000 in
theorem wX6_rankOf {M : zM} {post : Int32 → zM → Prop} (hF : CallFix p m c cX6_rankOf 2 s args wsX6_rankOf RX6) (hSt : zSt G s) (hret : zRi p l e ({ frames := 4, cells := 0, slots := 0, locals := 95 } : Room) s m args below meth c Q cX6_rankOf G false O post) (x1 : Int32) (H : Heap) (locs : List Loc) (ls : Array Slot) (hH : zH G false s H locs M O) (hl : lv_has ls 2 [(0, .ref (G.1 21)), (1, .int x1)]) (h : pX6_rankOf M x1 post) : W p l e ({ frames := 4, cells := 0, slots := 0, locals := 95 } : Room) s m args below meth c H locs 0 0 Q (F0 m 0 ls []) := by
  obtain ⟨hx, hb, hml, hown, hts⟩ := id hF
  unfold pX6_rankOf at h
  refine lv_aload_n hx hb dX6_rankOf_0 rfl (lv_at hl 0 rfl) ?_
  refine lv_iload_n hx hb dX6_rankOf_1 rfl (lv_at hl 1 rfl) ?_
  refine zcallv hH (va_runV (As := [.int x1]) (rest := []) hF (kX6_study l G M O x1 _ h) (cwV 1 hts gX6_rankOf_X6_study rfl rfl rfl ⟨rfl, zdX6_study⟩ ⟨Nat.le_of_ble_eq_true rfl, Nat.le_of_ble_eq_true rfl⟩) (zpreV hSt hH 21 (by decide) rfl (zE_21 _ _ _) (q := (RX6, TX6, 31)) rfl [.int x1]) rfl rfl hl.1 rfl (lv_room (Nat.le_of_ble_eq_true rfl)) dX6_rankOf_2 ⟨Nat.zero_le _, Nat.zero_le _⟩) (fun M2 H locs h hH => ?_)
  refine lv_aload_n hx hb dX6_rankOf_5 rfl (lv_at hl 0 rfl) ?_
  refine zget (v := .int (M2.1 21 22)) hF hSt hH 21 (by decide) rfl (zE_21 _ _ _) (C := RX6) (T := TX6) (N := 31) rfl znX6_rankOf_X6 22 (by decide) (List.mem_of_getElem? (i := 1) rfl) rfl dX6_rankOf_6 ?_
  exact hret _ _ _ _ _ _ dX6_rankOf_9 h hH
set_option maxRecDepth 100000 in
theorem kX6_rankOf (l : Launch) (G : zG) (M O : zM) (x1 : Int32) (post : Int32 → zM → Prop) (h : pX6_rankOf M x1 post) : Met l yX6_rankOf wsX6_rankOf ({ frames := 4, cells := 0, slots := 0, locals := 95 } : Room) (zPc G false M O [.ref (G.1 21), .int x1]) (va_Qi post (zB G false O) (zAA G)) 0 0 (zAA G) :=
  zmet_i (by decide) rfl (Nat.le_of_ble_eq_true rfl) (fun hF hSt hret H locs ls hH hl => wX6_rankOf hF hSt hret x1 H locs ls hH hl h)
end
theorem znX6_rank_X6 : ∀ w ∈ wsX60, w ∈ wsX6_rank := fun _ h => List.mem_cons_of_mem _ (List.mem_append_right _ h)
theorem zdX6_rank : yX6_rank.cls ≠ "java/lang/invoke/MethodHandle" ∧ yX6_rank.cls ≠ "java/lang/invoke/VarHandle" ∧ (parseMethodDescriptor yX6_rank.desc).map (fun d => d.parameters.length) = some 1 := by decide +kernel
-- MixingRelaysModel rank(I)I
section
variable {p : Program} {l : Launch} {e : Env} {s : State} {m : MethodId} {args : Array Value} {below : List Frame} {meth : Method} {c : Code} {Q : State → Prop} {G : zG} {O : zM}
def pX6_rank (M : zM) (x1 : Int32) (post : Int32 → zM → Prop) : Prop :=
  pX6_isRelay M x1 (fun r2 => (¬ (r2 = 0) → (¬ (x1 = 0) → pX6_work M  (fun M18 => pX6_rankOf M18 x1 (fun r23 M23 => post r23 M23))) ∧ (x1 = 0 → post (-2 : Int32) M)) ∧ (r2 = 0 → post (-1 : Int32) M))
set_option maxHeartbeats 4000000 in
set_option maxRecDepth 100000 in
theorem wX6_rank {M : zM} {post : Int32 → zM → Prop} (hF : CallFix p m c cX6_rank 2 s args wsX6_rank RX6) (hSt : zSt G s) (hret : zRi p l e ({ frames := 5, cells := 0, slots := 0, locals := 116 } : Room) s m args below meth c Q cX6_rank G false O post) (x1 : Int32) (H : Heap) (locs : List Loc) (ls : Array Slot) (hH : zH G false s H locs M O) (hl : lv_has ls 2 [(0, .ref (G.1 21)), (1, .int x1)]) (h : pX6_rank M x1 post) : W p l e ({ frames := 5, cells := 0, slots := 0, locals := 116 } : Room) s m args below meth c H locs 0 0 Q (F0 m 0 ls []) := by
  obtain ⟨hx, hb, hml, hown, hts⟩ := id hF
  unfold pX6_rank at h
  refine lv_aload_n hx hb dX6_rank_0 rfl (lv_at hl 0 rfl) ?_
  refine lv_iload_n hx hb dX6_rank_1 rfl (lv_at hl 1 rfl) ?_
  refine zcalliP hH (va_runV (As := [.int x1]) (rest := []) hF (kX6_isRelay l G M O x1 _ h) (cwV 1 hts gX6_rank_X6_isRelay rfl rfl rfl ⟨rfl, zdX6_isRelay⟩ ⟨Nat.le_of_ble_eq_true rfl, Nat.le_of_ble_eq_true rfl⟩) (zpreV hSt hH 21 (by decide) rfl (zE_21 _ _ _) (q := (RX6, TX6, 31)) rfl [.int x1]) rfl rfl hl.1 rfl (lv_room (Nat.le_of_ble_eq_true rfl)) dX6_rank_2 ⟨Nat.zero_le _, Nat.zero_le _⟩) (fun r2 H locs h hH => ?_)
  refine lv_if_ne (tgt := 10) hx hb dX6_rank_5 (by decide) (fun q5 => ?_) (fun q5 => ?_)
  · have h := h.1 q5
    refine lv_iload_n hx hb dX6_rank_10 rfl (lv_at hl 1 rfl) ?_
    refine lv_if_ne (tgt := 17) hx hb dX6_rank_11 (by decide) (fun q11 => ?_) (fun q11 => ?_)
    · have h := h.1 q11
      refine lv_aload_n hx hb dX6_rank_17 rfl (lv_at hl 0 rfl) ?_
      refine zcallv hH (va_runV (As := []) (rest := []) hF (kX6_work l G M O _ h) (cwV 0 hts gX6_rank_X6_work rfl rfl rfl ⟨rfl, zdX6_work⟩ ⟨Nat.le_of_ble_eq_true rfl, Nat.le_of_ble_eq_true rfl⟩) (zpreV hSt hH 21 (by decide) rfl (zE_21 _ _ _) (q := (RX6, TX6, 31)) rfl []) rfl rfl hl.1 rfl (lv_room (Nat.le_of_ble_eq_true rfl)) dX6_rank_18 ⟨Nat.zero_le _, Nat.zero_le _⟩) (fun M18 H locs h hH => ?_)
      refine lv_aload_n hx hb dX6_rank_21 rfl (lv_at hl 0 rfl) ?_
      refine lv_iload_n hx hb dX6_rank_22 rfl (lv_at hl 1 rfl) ?_
      refine zcalli hH (va_runV (As := [.int x1]) (rest := []) hF (kX6_rankOf l G M18 O x1 _ h) (cwV 1 hts gX6_rank_X6_rankOf rfl rfl rfl ⟨rfl, zdX6_rankOf⟩ ⟨Nat.le_of_ble_eq_true rfl, Nat.le_of_ble_eq_true rfl⟩) (zpreV hSt hH 21 (by decide) rfl (zE_21 _ _ _) (q := (RX6, TX6, 31)) rfl [.int x1]) rfl rfl hl.1 rfl (lv_room (Nat.le_of_ble_eq_true rfl)) dX6_rank_23 ⟨Nat.zero_le _, Nat.zero_le _⟩) (fun r23 M23 H locs h hH => ?_)
      exact hret _ _ _ _ _ _ dX6_rank_26 h hH
    · have h := h.2 q11
      refine lv_bipush (v := (-2 : Int32)) hx hb dX6_rank_14 (by decide) ?_
      exact hret _ _ _ _ _ _ dX6_rank_16 h hH
  · have h := h.2 q5
    refine lv_iconst (v := (-1 : Int32)) hx hb dX6_rank_8 (by decide) ?_
    exact hret _ _ _ _ _ _ dX6_rank_9 h hH
set_option maxRecDepth 100000 in
theorem kX6_rank (l : Launch) (G : zG) (M O : zM) (x1 : Int32) (post : Int32 → zM → Prop) (h : pX6_rank M x1 post) : Met l yX6_rank wsX6_rank ({ frames := 5, cells := 0, slots := 0, locals := 116 } : Room) (zPc G false M O [.ref (G.1 21), .int x1]) (va_Qi post (zB G false O) (zAA G)) 0 0 (zAA G) :=
  zmet_i (by decide) rfl (Nat.le_of_ble_eq_true rfl) (fun hF hSt hret H locs ls hH hl => wX6_rank hF hSt hret x1 H locs ls hH hl h)
end
theorem znX6_fresh_X6 : ∀ w ∈ wsX60, w ∈ wsX6_fresh := fun _ h => List.mem_cons_of_mem _ (List.mem_append_right _ h)
theorem zdX6_fresh : yX6_fresh.cls ≠ "java/lang/invoke/MethodHandle" ∧ yX6_fresh.cls ≠ "java/lang/invoke/VarHandle" ∧ (parseMethodDescriptor yX6_fresh.desc).map (fun d => d.parameters.length) = some 2 := by decide +kernel
-- MixingRelaysModel fresh(II)I
section
variable {p : Program} {l : Launch} {e : Env} {s : State} {m : MethodId} {args : Array Value} {below : List Frame} {meth : Method} {c : Code} {Q : State → Prop} {G : zG} {O : zM}
def pX6_fresh_b12 (post : Int32 → zM → Prop) (M : zM) : Prop :=
  post (-1 : Int32) M
set_option maxHeartbeats 4000000 in
set_option maxRecDepth 100000 in
theorem wX6_fresh_b12 {post : Int32 → zM → Prop}  (hF : CallFix p m c cX6_fresh 3 s args wsX6_fresh RX6) (hSt : zSt G s) (hret : zRi p l e ({ frames := 5, cells := 0, slots := 0, locals := 116 } : Room) s m args below meth c Q cX6_fresh G false O post) (M : zM) (H : Heap) (locs : List Loc) (ls : Array Slot) (hH : zH G false s H locs M O) (hl : lv_has ls 3 []) (h : pX6_fresh_b12 post M) : W p l e ({ frames := 5, cells := 0, slots := 0, locals := 116 } : Room) s m args below meth c H locs 0 0 Q (F0 m 12 ls []) := by
  obtain ⟨hx, hb, hml, hown, hts⟩ := id hF
  unfold pX6_fresh_b12 at h
  refine lv_iconst (v := (-1 : Int32)) hx hb dX6_fresh_12 (by decide) ?_
  exact hret _ _ _ _ _ _ dX6_fresh_13 h hH
def pX6_fresh_b44 (post : Int32 → zM → Prop) (t0 : Int32) (M : zM) : Prop :=
  post t0 M
set_option maxHeartbeats 4000000 in
set_option maxRecDepth 100000 in
theorem wX6_fresh_b44 {post : Int32 → zM → Prop}  (hF : CallFix p m c cX6_fresh 3 s args wsX6_fresh RX6) (hSt : zSt G s) (hret : zRi p l e ({ frames := 5, cells := 0, slots := 0, locals := 116 } : Room) s m args below meth c Q cX6_fresh G false O post) (t0 : Int32) (M : zM) (H : Heap) (locs : List Loc) (ls : Array Slot) (hH : zH G false s H locs M O) (hl : lv_has ls 3 []) (h : pX6_fresh_b44 post t0 M) : W p l e ({ frames := 5, cells := 0, slots := 0, locals := 116 } : Room) s m args below meth c H locs 0 0 Q (F0 m 44 ls [.int t0]) := by
  obtain ⟨hx, hb, hml, hown, hts⟩ := id hF
  unfold pX6_fresh_b44 at h
  exact hret _ _ _ _ _ _ dX6_fresh_44 h hH
def pX6_fresh (M : zM) (x1 : Int32) (x2 : Int32) (post : Int32 → zM → Prop) : Prop :=
  pX6_isRelay M x1 (fun r2 => (r2 = 0 → pX6_fresh_b12 post M) ∧ (¬ (r2 = 0) → (0 ≤ x2 → (¬ (x1 = 0) → pX6_work M  (fun M22 => pX6_rankOf M22 x1 (fun r28 M28 => (r28 ≤ x2 → pX6_fresh_b44 post (-1 : Int32) M28) ∧ (¬ (r28 ≤ x2) → vp_in x2 4 ∧ pX6_fresh_b44 post (M28.1 37 x2.toNatClampNeg) M28)))) ∧ (x1 = 0 → post (-2 : Int32) M)) ∧ (¬ (0 ≤ x2) → pX6_fresh_b12 post M)))
set_option maxHeartbeats 4000000 in
set_option maxRecDepth 100000 in
theorem wX6_fresh {M : zM} {post : Int32 → zM → Prop} (hF : CallFix p m c cX6_fresh 3 s args wsX6_fresh RX6) (hSt : zSt G s) (hret : zRi p l e ({ frames := 5, cells := 0, slots := 0, locals := 116 } : Room) s m args below meth c Q cX6_fresh G false O post) (x1 : Int32) (x2 : Int32) (H : Heap) (locs : List Loc) (ls : Array Slot) (hH : zH G false s H locs M O) (hl : lv_has ls 3 [(0, .ref (G.1 21)), (1, .int x1), (2, .int x2)]) (h : pX6_fresh M x1 x2 post) : W p l e ({ frames := 5, cells := 0, slots := 0, locals := 116 } : Room) s m args below meth c H locs 0 0 Q (F0 m 0 ls []) := by
  obtain ⟨hx, hb, hml, hown, hts⟩ := id hF
  unfold pX6_fresh at h
  refine lv_aload_n hx hb dX6_fresh_0 rfl (lv_at hl 0 rfl) ?_
  refine lv_iload_n hx hb dX6_fresh_1 rfl (lv_at hl 1 rfl) ?_
  refine zcalliP hH (va_runV (As := [.int x1]) (rest := []) hF (kX6_isRelay l G M O x1 _ h) (cwV 1 hts gX6_fresh_X6_isRelay rfl rfl rfl ⟨rfl, zdX6_isRelay⟩ ⟨Nat.le_of_ble_eq_true rfl, Nat.le_of_ble_eq_true rfl⟩) (zpreV hSt hH 21 (by decide) rfl (zE_21 _ _ _) (q := (RX6, TX6, 31)) rfl [.int x1]) rfl rfl hl.1 rfl (lv_room (Nat.le_of_ble_eq_true rfl)) dX6_fresh_2 ⟨Nat.zero_le _, Nat.zero_le _⟩) (fun r2 H locs h hH => ?_)
  refine lv_if_eq (tgt := 12) hx hb dX6_fresh_5 (by decide) (fun q5 => ?_) (fun q5 => ?_)
  · have h := h.1 q5
    exact wX6_fresh_b12 hF hSt hret M H locs ls hH (lv_sub hl [] rfl) h
  · have h := h.2 q5
    refine lv_iload_n hx hb dX6_fresh_8 rfl (lv_at hl 2 rfl) ?_
    refine lv_if_ge (tgt := 14) hx hb dX6_fresh_9 (by decide) (fun q9 => ?_) (fun q9 => ?_)
    · have h := h.1 q9
      refine lv_iload_n hx hb dX6_fresh_14 rfl (lv_at hl 1 rfl) ?_
      refine lv_if_ne (tgt := 21) hx hb dX6_fresh_15 (by decide) (fun q15 => ?_) (fun q15 => ?_)
      · have h := h.1 q15
        refine lv_aload_n hx hb dX6_fresh_21 rfl (lv_at hl 0 rfl) ?_
        refine zcallv hH (va_runV (As := []) (rest := []) hF (kX6_work l G M O _ h) (cwV 0 hts gX6_fresh_X6_work rfl rfl rfl ⟨rfl, zdX6_work⟩ ⟨Nat.le_of_ble_eq_true rfl, Nat.le_of_ble_eq_true rfl⟩) (zpreV hSt hH 21 (by decide) rfl (zE_21 _ _ _) (q := (RX6, TX6, 31)) rfl []) rfl rfl hl.1 rfl (lv_room (Nat.le_of_ble_eq_true rfl)) dX6_fresh_22 ⟨Nat.zero_le _, Nat.zero_le _⟩) (fun M22 H locs h hH => ?_)
        refine lv_iload_n hx hb dX6_fresh_25 rfl (lv_at hl 2 rfl) ?_
        refine lv_aload_n hx hb dX6_fresh_26 rfl (lv_at hl 0 rfl) ?_
        refine lv_iload_n hx hb dX6_fresh_27 rfl (lv_at hl 1 rfl) ?_
        refine zcalli hH (va_runV (As := [.int x1]) (rest := [.int x2]) hF (kX6_rankOf l G M22 O x1 _ h) (cwV 1 hts gX6_fresh_X6_rankOf rfl rfl rfl ⟨rfl, zdX6_rankOf⟩ ⟨Nat.le_of_ble_eq_true rfl, Nat.le_of_ble_eq_true rfl⟩) (zpreV hSt hH 21 (by decide) rfl (zE_21 _ _ _) (q := (RX6, TX6, 31)) rfl [.int x1]) rfl rfl hl.1 rfl (lv_room (Nat.le_of_ble_eq_true rfl)) dX6_fresh_28 ⟨Nat.zero_le _, Nat.zero_le _⟩) (fun r28 M28 H locs h hH => ?_)
        refine lv_icmp_ge (tgt := 43) hx hb dX6_fresh_31 (by decide) (fun q31 => ?_) (fun q31 => ?_)
        · have h := h.1 q31
          refine lv_iconst (v := (-1 : Int32)) hx hb dX6_fresh_43 (by decide) ?_
          exact wX6_fresh_b44 hF hSt hret (-1 : Int32) M28 H locs ls hH (lv_sub hl [] rfl) h
        · have h := h.2 q31
          refine lv_aload_n hx hb dX6_fresh_34 rfl (lv_at hl 0 rfl) ?_
          refine zget (v := .ref (G.1 37)) hF hSt hH 21 (by decide) rfl (zE_21 _ _ _) (C := RX6) (T := TX6) (N := 31) rfl znX6_fresh_X6 21 (by decide) (List.mem_of_getElem? (i := 1) rfl) rfl dX6_fresh_35 ?_
          refine lv_iload_n hx hb dX6_fresh_38 rfl (lv_at hl 2 rfl) ?_
          obtain ⟨q39, h⟩ := h
          refine zald hF hSt hH 37 (by decide) rfl (zE_37 _ _ _) q39 dX6_fresh_39 ?_
          refine lv_goto (tgt := 44) hx hb dX6_fresh_40 (by decide) ?_
          exact wX6_fresh_b44 hF hSt hret (M28.1 37 x2.toNatClampNeg) M28 H locs ls hH (lv_sub hl [] rfl) h
      · have h := h.2 q15
        refine lv_bipush (v := (-2 : Int32)) hx hb dX6_fresh_18 (by decide) ?_
        exact hret _ _ _ _ _ _ dX6_fresh_20 h hH
    · have h := h.2 q9
      exact wX6_fresh_b12 hF hSt hret M H locs ls hH (lv_sub hl [] rfl) h
set_option maxRecDepth 100000 in
theorem kX6_fresh (l : Launch) (G : zG) (M O : zM) (x1 : Int32) (x2 : Int32) (post : Int32 → zM → Prop) (h : pX6_fresh M x1 x2 post) : Met l yX6_fresh wsX6_fresh ({ frames := 5, cells := 0, slots := 0, locals := 116 } : Room) (zPc G false M O [.ref (G.1 21), .int x1, .int x2]) (va_Qi post (zB G false O) (zAA G)) 0 0 (zAA G) :=
  zmet_i (by decide) rfl (Nat.le_of_ble_eq_true rfl) (fun hF hSt hret H locs ls hH hl => wX6_fresh hF hSt hret x1 x2 H locs ls hH hl h)
end
theorem znX6_solvesFor_X6 : ∀ w ∈ wsX60, w ∈ wsX6_solvesFor := fun _ h => List.mem_cons_of_mem _ (List.mem_append_right _ h)
theorem zdX6_solvesFor : yX6_solvesFor.cls ≠ "java/lang/invoke/MethodHandle" ∧ yX6_solvesFor.cls ≠ "java/lang/invoke/VarHandle" ∧ (parseMethodDescriptor yX6_solvesFor.desc).map (fun d => d.parameters.length) = some 1 := by decide +kernel
-- MixingRelaysModel solvesFor(I)Z
section
variable {p : Program} {l : Launch} {e : Env} {s : State} {m : MethodId} {args : Array Value} {below : List Frame} {meth : Method} {c : Code} {Q : State → Prop} {G : zG} {O : zM}
def pX6_solvesFor_b36 (post : Int32 → zM → Prop) (ag36 : Int32 → zM → Prop) (x2 : Int32) (M : zM) : Prop :=
  ((M.1 21 3) ≤ x2 → ((1 : Int32) = 0 ∨ (1 : Int32) = 1) ∧ post (1 : Int32) M) ∧ (¬ ((M.1 21 3) ≤ x2) → vp_in x2 9 ∧ ((M.1 38 x2.toNatClampNeg) = 0 → ag36 (x2 + (1 : Int32)) M) ∧ (¬ ((M.1 38 x2.toNatClampNeg) = 0) → ((0 : Int32) = 0 ∨ (0 : Int32) = 1) ∧ post (0 : Int32) M))
set_option maxHeartbeats 4000000 in
set_option maxRecDepth 100000 in
theorem wX6_solvesFor_b36 {post : Int32 → zM → Prop} {ag36 : Int32 → zM → Prop} (hF : CallFix p m c cX6_solvesFor 3 s args wsX6_solvesFor RX6) (hSt : zSt G s) (hret : zRz p l e ({ frames := 2, cells := 0, slots := 0, locals := 47 } : Room) s m args below meth c Q cX6_solvesFor G false O post) (hag36 : ∀ (x2 : Int32) (M : zM) (H : Heap) (locs : List Loc) (ls : Array Slot), ag36 x2 M → zH G false s H locs M O → lv_has ls 3 [(0, .ref (G.1 21)), (2, .int x2)] → W p l e ({ frames := 2, cells := 0, slots := 0, locals := 47 } : Room) s m args below meth c H locs 0 0 Q (F0 m 36 ls [])) (x2 : Int32) (M : zM) (H : Heap) (locs : List Loc) (ls : Array Slot) (hH : zH G false s H locs M O) (hl : lv_has ls 3 [(0, .ref (G.1 21)), (2, .int x2)]) (h : pX6_solvesFor_b36 post ag36 x2 M) : W p l e ({ frames := 2, cells := 0, slots := 0, locals := 47 } : Room) s m args below meth c H locs 0 0 Q (F0 m 36 ls []) := by
  obtain ⟨hx, hb, hml, hown, hts⟩ := id hF
  unfold pX6_solvesFor_b36 at h
  refine lv_iload_n hx hb dX6_solvesFor_36 rfl (lv_at hl 1 rfl) ?_
  refine lv_aload_n hx hb dX6_solvesFor_37 rfl (lv_at hl 0 rfl) ?_
  refine zget (v := .int (M.1 21 3)) hF hSt hH 21 (by decide) rfl (zE_21 _ _ _) (C := RX6) (T := TX6) (N := 31) rfl znX6_solvesFor_X6 3 (by decide) (List.mem_of_getElem? (i := 2) rfl) rfl dX6_solvesFor_38 ?_
  refine lv_icmp_ge (tgt := 61) hx hb dX6_solvesFor_41 (by decide) (fun q41 => ?_) (fun q41 => ?_)
  · have h := h.1 q41
    refine lv_iconst (v := (1 : Int32)) hx hb dX6_solvesFor_61 (by decide) ?_
    exact hret _ _ _ _ _ _ dX6_solvesFor_62 h hH
  · have h := h.2 q41
    refine lv_aload_n hx hb dX6_solvesFor_44 rfl (lv_at hl 0 rfl) ?_
    refine zget (v := .ref (G.1 38)) hF hSt hH 21 (by decide) rfl (zE_21 _ _ _) (C := RX6) (T := TX6) (N := 31) rfl znX6_solvesFor_X6 23 (by decide) (List.mem_of_getElem? (i := 1) rfl) rfl dX6_solvesFor_45 ?_
    refine lv_iload_n hx hb dX6_solvesFor_48 rfl (lv_at hl 1 rfl) ?_
    obtain ⟨q49, h⟩ := h
    refine zald hF hSt hH 38 (by decide) rfl (zE_38 _ _ _) q49 dX6_solvesFor_49 ?_
    refine lv_if_eq (tgt := 55) hx hb dX6_solvesFor_50 (by decide) (fun q50 => ?_) (fun q50 => ?_)
    · have h := h.1 q50
      refine lv_iinc (v := (x2 + (1 : Int32))) (lv' := [(2, .int (x2 + (1 : Int32))), (0, .ref (G.1 21))]) hx hb dX6_solvesFor_55 hl (k := 1) rfl rfl (by decide) rfl (fun ls hl => ?_)
      refine lv_goto (tgt := 36) hx hb dX6_solvesFor_58 (by decide) ?_
      exact hag36 (x2 + (1 : Int32)) M H locs ls h hH (lv_sub hl [1, 0] rfl)
    · have h := h.2 q50
      refine lv_iconst (v := (0 : Int32)) hx hb dX6_solvesFor_53 (by decide) ?_
      exact hret _ _ _ _ _ _ dX6_solvesFor_54 h hH
def pX6_solvesFor_L36 (post : Int32 → zM → Prop) (x2 : Int32) (M : zM) : Prop :=
  ∃ I : Nat → Int32 → zM → Prop, (∃ n, I n x2 M) ∧ ∀ n x2 M, I n x2 M → pX6_solvesFor_b36 post (fun x2 M => ∃ k, k < n ∧ I k x2 M) x2 M
set_option maxHeartbeats 4000000 in
theorem wX6_solvesFor_L36 {post : Int32 → zM → Prop}  (hF : CallFix p m c cX6_solvesFor 3 s args wsX6_solvesFor RX6) (hSt : zSt G s) (hret : zRz p l e ({ frames := 2, cells := 0, slots := 0, locals := 47 } : Room) s m args below meth c Q cX6_solvesFor G false O post) (x2 : Int32) (M : zM) (H : Heap) (locs : List Loc) (ls : Array Slot) (hH : zH G false s H locs M O) (hl : lv_has ls 3 [(0, .ref (G.1 21)), (2, .int x2)]) (h : pX6_solvesFor_L36 post x2 M) : W p l e ({ frames := 2, cells := 0, slots := 0, locals := 47 } : Room) s m args below meth c H locs 0 0 Q (F0 m 36 ls []) := by
  obtain ⟨I, ⟨n, hI⟩, hs⟩ := h
  have key : ∀ (n : Nat) (x2 : Int32) (M : zM) (H : Heap) (locs : List Loc) (ls : Array Slot), I n x2 M → zH G false s H locs M O → lv_has ls 3 [(0, .ref (G.1 21)), (2, .int x2)] → W p l e ({ frames := 2, cells := 0, slots := 0, locals := 47 } : Room) s m args below meth c H locs 0 0 Q (F0 m 36 ls []) := by
    intro n
    induction n using Nat.strongRecOn with
    | _ n ih =>
      intro x2 M H locs ls hI hH hl
      exact wX6_solvesFor_b36 hF hSt hret (fun x2 M H locs ls h hH hl => by obtain ⟨k, hk, hI⟩ := h; exact ih k hk x2 M H locs ls hI hH hl) x2 M H locs ls hH hl (hs n x2 M hI)
  exact key n x2 M H locs ls hI hH hl
def pX6_solvesFor_b23 (post : Int32 → zM → Prop) (ag2 : Int32 → Int32 → zM → Prop) (x1 : Int32) (x2 : Int32) (t0 : Int32) (t1 : Int32) (M : zM) : Prop :=
  vp_in t1 9 ∧ ag2 x1 (x2 + (1 : Int32)) (zsi M 38 t1.toNatClampNeg t0)
set_option maxHeartbeats 4000000 in
set_option maxRecDepth 100000 in
theorem wX6_solvesFor_b23 {post : Int32 → zM → Prop} {ag2 : Int32 → Int32 → zM → Prop} (hF : CallFix p m c cX6_solvesFor 3 s args wsX6_solvesFor RX6) (hSt : zSt G s) (hret : zRz p l e ({ frames := 2, cells := 0, slots := 0, locals := 47 } : Room) s m args below meth c Q cX6_solvesFor G false O post) (hag2 : ∀ (x1 : Int32) (x2 : Int32) (M : zM) (H : Heap) (locs : List Loc) (ls : Array Slot), ag2 x1 x2 M → zH G false s H locs M O → lv_has ls 3 [(0, .ref (G.1 21)), (1, .int x1), (2, .int x2)] → W p l e ({ frames := 2, cells := 0, slots := 0, locals := 47 } : Room) s m args below meth c H locs 0 0 Q (F0 m 2 ls [])) (x1 : Int32) (x2 : Int32) (t0 : Int32) (t1 : Int32) (M : zM) (H : Heap) (locs : List Loc) (ls : Array Slot) (hH : zH G false s H locs M O) (hl : lv_has ls 3 [(0, .ref (G.1 21)), (1, .int x1), (2, .int x2)]) (h : pX6_solvesFor_b23 post ag2 x1 x2 t0 t1 M) : W p l e ({ frames := 2, cells := 0, slots := 0, locals := 47 } : Room) s m args below meth c H locs 0 0 Q (F0 m 23 ls [.int t0, .int t1, .ref (G.1 38)]) := by
  obtain ⟨hx, hb, hml, hown, hts⟩ := id hF
  unfold pX6_solvesFor_b23 at h
  obtain ⟨q23, h⟩ := h
  refine zast hF hSt hH 38 (by decide) rfl (zE_38 _) (x := t0) q23 dX6_solvesFor_23 (fun H locs hH => ?_)
  refine lv_iinc (v := (x2 + (1 : Int32))) (lv' := [(2, .int (x2 + (1 : Int32))), (0, .ref (G.1 21)), (1, .int x1)]) hx hb dX6_solvesFor_24 hl (k := 2) rfl rfl (by decide) rfl (fun ls hl => ?_)
  refine lv_goto (tgt := 2) hx hb dX6_solvesFor_27 (by decide) ?_
  exact hag2 x1 (x2 + (1 : Int32)) (zsi M 38 t1.toNatClampNeg t0) H locs ls h hH (lv_sub hl [1, 2, 0] rfl)
def pX6_solvesFor_b2 (post : Int32 → zM → Prop) (ag2 : Int32 → Int32 → zM → Prop) (x1 : Int32) (x2 : Int32) (M : zM) : Prop :=
  ((9 : Int32) ≤ x2 → pX6_reduce M  (fun M31 => pX6_solvesFor_L36 post (0 : Int32) M31)) ∧ (¬ ((9 : Int32) ≤ x2) → (¬ (x2 = x1) → pX6_solvesFor_b23 post ag2 x1 x2 (0 : Int32) x2 M) ∧ (x2 = x1 → pX6_solvesFor_b23 post ag2 x1 x2 (1 : Int32) x2 M))
set_option maxHeartbeats 4000000 in
set_option maxRecDepth 100000 in
theorem wX6_solvesFor_b2 {post : Int32 → zM → Prop} {ag2 : Int32 → Int32 → zM → Prop} (hF : CallFix p m c cX6_solvesFor 3 s args wsX6_solvesFor RX6) (hSt : zSt G s) (hret : zRz p l e ({ frames := 2, cells := 0, slots := 0, locals := 47 } : Room) s m args below meth c Q cX6_solvesFor G false O post) (hag2 : ∀ (x1 : Int32) (x2 : Int32) (M : zM) (H : Heap) (locs : List Loc) (ls : Array Slot), ag2 x1 x2 M → zH G false s H locs M O → lv_has ls 3 [(0, .ref (G.1 21)), (1, .int x1), (2, .int x2)] → W p l e ({ frames := 2, cells := 0, slots := 0, locals := 47 } : Room) s m args below meth c H locs 0 0 Q (F0 m 2 ls [])) (x1 : Int32) (x2 : Int32) (M : zM) (H : Heap) (locs : List Loc) (ls : Array Slot) (hH : zH G false s H locs M O) (hl : lv_has ls 3 [(0, .ref (G.1 21)), (1, .int x1), (2, .int x2)]) (h : pX6_solvesFor_b2 post ag2 x1 x2 M) : W p l e ({ frames := 2, cells := 0, slots := 0, locals := 47 } : Room) s m args below meth c H locs 0 0 Q (F0 m 2 ls []) := by
  obtain ⟨hx, hb, hml, hown, hts⟩ := id hF
  unfold pX6_solvesFor_b2 at h
  refine lv_iload_n hx hb dX6_solvesFor_2 rfl (lv_at hl 2 rfl) ?_
  refine lv_bipush (v := (9 : Int32)) hx hb dX6_solvesFor_3 (by decide) ?_
  refine lv_icmp_ge (tgt := 30) hx hb dX6_solvesFor_5 (by decide) (fun q5 => ?_) (fun q5 => ?_)
  · have h := h.1 q5
    refine lv_aload_n hx hb dX6_solvesFor_30 rfl (lv_at hl 0 rfl) ?_
    refine zcallv hH (va_runV (As := []) (rest := []) hF (kX6_reduce l G M O _ h) (cwV 0 hts gX6_solvesFor_X6_reduce rfl rfl rfl ⟨rfl, zdX6_reduce⟩ ⟨Nat.le_of_ble_eq_true rfl, Nat.le_of_ble_eq_true rfl⟩) (zpreV hSt hH 21 (by decide) rfl (zE_21 _ _ _) (q := (RX6, TX6, 31)) rfl []) rfl rfl hl.1 rfl (lv_room (Nat.le_of_ble_eq_true rfl)) dX6_solvesFor_31 ⟨Nat.zero_le _, Nat.zero_le _⟩) (fun M31 H locs h hH => ?_)
    refine lv_iconst (v := (0 : Int32)) hx hb dX6_solvesFor_34 (by decide) ?_
    refine lv_istore_n (lv' := [(2, .int (0 : Int32)), (0, .ref (G.1 21)), (1, .int x1)]) hx hb dX6_solvesFor_35 rfl hl (by decide) rfl (fun ls hl => ?_)
    exact wX6_solvesFor_L36 hF hSt hret (0 : Int32) M31 H locs ls hH (lv_sub hl [1, 0] rfl) h
  · have h := h.2 q5
    refine lv_aload_n hx hb dX6_solvesFor_8 rfl (lv_at hl 0 rfl) ?_
    refine zget (v := .ref (G.1 38)) hF hSt hH 21 (by decide) rfl (zE_21 _ _ _) (C := RX6) (T := TX6) (N := 31) rfl znX6_solvesFor_X6 23 (by decide) (List.mem_of_getElem? (i := 1) rfl) rfl dX6_solvesFor_9 ?_
    refine lv_iload_n hx hb dX6_solvesFor_12 rfl (lv_at hl 2 rfl) ?_
    refine lv_iload_n hx hb dX6_solvesFor_13 rfl (lv_at hl 2 rfl) ?_
    refine lv_iload_n hx hb dX6_solvesFor_14 rfl (lv_at hl 1 rfl) ?_
    refine lv_icmp_ne (tgt := 22) hx hb dX6_solvesFor_15 (by decide) (fun q15 => ?_) (fun q15 => ?_)
    · have h := h.1 q15
      refine lv_iconst (v := (0 : Int32)) hx hb dX6_solvesFor_22 (by decide) ?_
      exact wX6_solvesFor_b23 hF hSt hret hag2 x1 x2 (0 : Int32) x2 M H locs ls hH (lv_sub hl [0, 1, 2] rfl) h
    · have h := h.2 q15
      refine lv_iconst (v := (1 : Int32)) hx hb dX6_solvesFor_18 (by decide) ?_
      refine lv_goto (tgt := 23) hx hb dX6_solvesFor_19 (by decide) ?_
      exact wX6_solvesFor_b23 hF hSt hret hag2 x1 x2 (1 : Int32) x2 M H locs ls hH (lv_sub hl [0, 1, 2] rfl) h
def pX6_solvesFor_L2 (post : Int32 → zM → Prop) (x1 : Int32) (x2 : Int32) (M : zM) : Prop :=
  ∃ I : Nat → Int32 → Int32 → zM → Prop, (∃ n, I n x1 x2 M) ∧ ∀ n x1 x2 M, I n x1 x2 M → pX6_solvesFor_b2 post (fun x1 x2 M => ∃ k, k < n ∧ I k x1 x2 M) x1 x2 M
set_option maxHeartbeats 4000000 in
theorem wX6_solvesFor_L2 {post : Int32 → zM → Prop}  (hF : CallFix p m c cX6_solvesFor 3 s args wsX6_solvesFor RX6) (hSt : zSt G s) (hret : zRz p l e ({ frames := 2, cells := 0, slots := 0, locals := 47 } : Room) s m args below meth c Q cX6_solvesFor G false O post) (x1 : Int32) (x2 : Int32) (M : zM) (H : Heap) (locs : List Loc) (ls : Array Slot) (hH : zH G false s H locs M O) (hl : lv_has ls 3 [(0, .ref (G.1 21)), (1, .int x1), (2, .int x2)]) (h : pX6_solvesFor_L2 post x1 x2 M) : W p l e ({ frames := 2, cells := 0, slots := 0, locals := 47 } : Room) s m args below meth c H locs 0 0 Q (F0 m 2 ls []) := by
  obtain ⟨I, ⟨n, hI⟩, hs⟩ := h
  have key : ∀ (n : Nat) (x1 : Int32) (x2 : Int32) (M : zM) (H : Heap) (locs : List Loc) (ls : Array Slot), I n x1 x2 M → zH G false s H locs M O → lv_has ls 3 [(0, .ref (G.1 21)), (1, .int x1), (2, .int x2)] → W p l e ({ frames := 2, cells := 0, slots := 0, locals := 47 } : Room) s m args below meth c H locs 0 0 Q (F0 m 2 ls []) := by
    intro n
    induction n using Nat.strongRecOn with
    | _ n ih =>
      intro x1 x2 M H locs ls hI hH hl
      exact wX6_solvesFor_b2 hF hSt hret (fun x1 x2 M H locs ls h hH hl => by obtain ⟨k, hk, hI⟩ := h; exact ih k hk x1 x2 M H locs ls hI hH hl) x1 x2 M H locs ls hH hl (hs n x1 x2 M hI)
  exact key n x1 x2 M H locs ls hI hH hl
def pX6_solvesFor (M : zM) (x1 : Int32) (post : Int32 → zM → Prop) : Prop :=
  pX6_solvesFor_L2 post x1 (0 : Int32) M
set_option maxHeartbeats 4000000 in
set_option maxRecDepth 100000 in
theorem wX6_solvesFor {M : zM} {post : Int32 → zM → Prop} (hF : CallFix p m c cX6_solvesFor 3 s args wsX6_solvesFor RX6) (hSt : zSt G s) (hret : zRz p l e ({ frames := 2, cells := 0, slots := 0, locals := 47 } : Room) s m args below meth c Q cX6_solvesFor G false O post) (x1 : Int32) (H : Heap) (locs : List Loc) (ls : Array Slot) (hH : zH G false s H locs M O) (hl : lv_has ls 3 [(0, .ref (G.1 21)), (1, .int x1)]) (h : pX6_solvesFor M x1 post) : W p l e ({ frames := 2, cells := 0, slots := 0, locals := 47 } : Room) s m args below meth c H locs 0 0 Q (F0 m 0 ls []) := by
  obtain ⟨hx, hb, hml, hown, hts⟩ := id hF
  unfold pX6_solvesFor at h
  refine lv_iconst (v := (0 : Int32)) hx hb dX6_solvesFor_0 (by decide) ?_
  refine lv_istore_n (lv' := [(2, .int (0 : Int32)), (0, .ref (G.1 21)), (1, .int x1)]) hx hb dX6_solvesFor_1 rfl hl (by decide) rfl (fun ls hl => ?_)
  exact wX6_solvesFor_L2 hF hSt hret x1 (0 : Int32) M H locs ls hH (lv_sub hl [1, 2, 0] rfl) h
set_option maxRecDepth 100000 in
theorem kX6_solvesFor (l : Launch) (G : zG) (M O : zM) (x1 : Int32) (post : Int32 → zM → Prop) (h : pX6_solvesFor M x1 post) : Met l yX6_solvesFor wsX6_solvesFor ({ frames := 2, cells := 0, slots := 0, locals := 47 } : Room) (zPc G false M O [.ref (G.1 21), .int x1]) (va_Qi post (zB G false O) (zAA G)) 0 0 (zAA G) :=
  zmet_z (by decide) rfl (Nat.le_of_ble_eq_true rfl) (fun hF hSt hret H locs ls hH hl => wX6_solvesFor hF hSt hret x1 H locs ls hH hl h)
end
theorem znX6_solves_X6 : ∀ w ∈ wsX60, w ∈ wsX6_solves := fun _ h => List.mem_cons_of_mem _ (List.mem_append_right _ h)
theorem zdX6_solves : yX6_solves.cls ≠ "java/lang/invoke/MethodHandle" ∧ yX6_solves.cls ≠ "java/lang/invoke/VarHandle" ∧ (parseMethodDescriptor yX6_solves.desc).map (fun d => d.parameters.length) = some 2 := by decide +kernel
-- MixingRelaysModel solves(II)I
section
variable {p : Program} {l : Launch} {e : Env} {s : State} {m : MethodId} {args : Array Value} {below : List Frame} {meth : Method} {c : Code} {Q : State → Prop} {G : zG} {O : zM}
def pX6_solves_b22 (post : Int32 → zM → Prop) (M : zM) : Prop :=
  post (-1 : Int32) M
set_option maxHeartbeats 4000000 in
set_option maxRecDepth 100000 in
theorem wX6_solves_b22 {post : Int32 → zM → Prop}  (hF : CallFix p m c cX6_solves 3 s args wsX6_solves RX6) (hSt : zSt G s) (hret : zRi p l e ({ frames := 4, cells := 0, slots := 0, locals := 97 } : Room) s m args below meth c Q cX6_solves G false O post) (M : zM) (H : Heap) (locs : List Loc) (ls : Array Slot) (hH : zH G false s H locs M O) (hl : lv_has ls 3 []) (h : pX6_solves_b22 post M) : W p l e ({ frames := 4, cells := 0, slots := 0, locals := 97 } : Room) s m args below meth c H locs 0 0 Q (F0 m 22 ls []) := by
  obtain ⟨hx, hb, hml, hown, hts⟩ := id hF
  unfold pX6_solves_b22 at h
  refine lv_iconst (v := (-1 : Int32)) hx hb dX6_solves_22 (by decide) ?_
  exact hret _ _ _ _ _ _ dX6_solves_23 h hH
def pX6_solves_b53 (post : Int32 → zM → Prop) (t0 : Int32) (M : zM) : Prop :=
  post t0 M
set_option maxHeartbeats 4000000 in
set_option maxRecDepth 100000 in
theorem wX6_solves_b53 {post : Int32 → zM → Prop}  (hF : CallFix p m c cX6_solves 3 s args wsX6_solves RX6) (hSt : zSt G s) (hret : zRi p l e ({ frames := 4, cells := 0, slots := 0, locals := 97 } : Room) s m args below meth c Q cX6_solves G false O post) (t0 : Int32) (M : zM) (H : Heap) (locs : List Loc) (ls : Array Slot) (hH : zH G false s H locs M O) (hl : lv_has ls 3 []) (h : pX6_solves_b53 post t0 M) : W p l e ({ frames := 4, cells := 0, slots := 0, locals := 97 } : Room) s m args below meth c H locs 0 0 Q (F0 m 53 ls [.int t0]) := by
  obtain ⟨hx, hb, hml, hown, hts⟩ := id hF
  unfold pX6_solves_b53 at h
  exact hret _ _ _ _ _ _ dX6_solves_53 h hH
def pX6_solves (M : zM) (x1 : Int32) (x2 : Int32) (post : Int32 → zM → Prop) : Prop :=
  pX6_isRelay M x1 (fun r2 => (r2 = 0 → pX6_solves_b22 post M) ∧ (¬ (r2 = 0) → pX6_in x2 (0 : Int32) ((M.1 21 3) - (1 : Int32)) (fun r16 => (¬ (r16 = 0) → (¬ (x1 = 0) → pX6_work M  (fun M32 => pX6_study M32 x1 (fun M37 => pX6_solvesFor M37 x2 (fun r42 M42 => (r42 = 0 → pX6_solves_b53 post (0 : Int32) M42) ∧ (¬ (r42 = 0) → pX6_solves_b53 post (1 : Int32) M42))))) ∧ (x1 = 0 → post (-2 : Int32) M)) ∧ (r16 = 0 → pX6_solves_b22 post M))))
set_option maxHeartbeats 4000000 in
set_option maxRecDepth 100000 in
theorem wX6_solves {M : zM} {post : Int32 → zM → Prop} (hF : CallFix p m c cX6_solves 3 s args wsX6_solves RX6) (hSt : zSt G s) (hret : zRi p l e ({ frames := 4, cells := 0, slots := 0, locals := 97 } : Room) s m args below meth c Q cX6_solves G false O post) (x1 : Int32) (x2 : Int32) (H : Heap) (locs : List Loc) (ls : Array Slot) (hH : zH G false s H locs M O) (hl : lv_has ls 3 [(0, .ref (G.1 21)), (1, .int x1), (2, .int x2)]) (h : pX6_solves M x1 x2 post) : W p l e ({ frames := 4, cells := 0, slots := 0, locals := 97 } : Room) s m args below meth c H locs 0 0 Q (F0 m 0 ls []) := by
  obtain ⟨hx, hb, hml, hown, hts⟩ := id hF
  unfold pX6_solves at h
  refine lv_aload_n hx hb dX6_solves_0 rfl (lv_at hl 0 rfl) ?_
  refine lv_iload_n hx hb dX6_solves_1 rfl (lv_at hl 1 rfl) ?_
  refine zcalliP hH (va_runV (As := [.int x1]) (rest := []) hF (kX6_isRelay l G M O x1 _ h) (cwV 1 hts gX6_solves_X6_isRelay rfl rfl rfl ⟨rfl, zdX6_isRelay⟩ ⟨Nat.le_of_ble_eq_true rfl, Nat.le_of_ble_eq_true rfl⟩) (zpreV hSt hH 21 (by decide) rfl (zE_21 _ _ _) (q := (RX6, TX6, 31)) rfl [.int x1]) rfl rfl hl.1 rfl (lv_room (Nat.le_of_ble_eq_true rfl)) dX6_solves_2 ⟨Nat.zero_le _, Nat.zero_le _⟩) (fun r2 H locs h hH => ?_)
  refine lv_if_eq (tgt := 22) hx hb dX6_solves_5 (by decide) (fun q5 => ?_) (fun q5 => ?_)
  · have h := h.1 q5
    exact wX6_solves_b22 hF hSt hret M H locs ls hH (lv_sub hl [] rfl) h
  · have h := h.2 q5
    refine lv_iload_n hx hb dX6_solves_8 rfl (lv_at hl 2 rfl) ?_
    refine lv_iconst (v := (0 : Int32)) hx hb dX6_solves_9 (by decide) ?_
    refine lv_aload_n hx hb dX6_solves_10 rfl (lv_at hl 0 rfl) ?_
    refine zget (v := .int (M.1 21 3)) hF hSt hH 21 (by decide) rfl (zE_21 _ _ _) (C := RX6) (T := TX6) (N := 31) rfl znX6_solves_X6 3 (by decide) (List.mem_of_getElem? (i := 1) rfl) rfl dX6_solves_11 ?_
    refine lv_iconst (v := (1 : Int32)) hx hb dX6_solves_14 (by decide) ?_
    refine lv_isub hx hb dX6_solves_15 ?_
    refine zcalliP hH (va_runS (As := [.int x2, .int (0 : Int32), .int ((M.1 21 3) - (1 : Int32))]) (rest := []) hF (kX6_in l G M O x2 (0 : Int32) ((M.1 21 3) - (1 : Int32)) _ h) (va_cwS 3 hts gX6_solves_X6_in rfl rfl rfl zdX6_in ⟨Nat.le_of_ble_eq_true rfl, Nat.le_of_ble_eq_true rfl⟩) (zpreS hSt hH [.int x2, .int (0 : Int32), .int ((M.1 21 3) - (1 : Int32))]) rfl rfl hl.1 rfl (lv_room (Nat.le_of_ble_eq_true rfl)) dX6_solves_16 ⟨Nat.zero_le _, Nat.zero_le _⟩) (fun r16 H locs h hH => ?_)
    refine lv_if_ne (tgt := 24) hx hb dX6_solves_19 (by decide) (fun q19 => ?_) (fun q19 => ?_)
    · have h := h.1 q19
      refine lv_iload_n hx hb dX6_solves_24 rfl (lv_at hl 1 rfl) ?_
      refine lv_if_ne (tgt := 31) hx hb dX6_solves_25 (by decide) (fun q25 => ?_) (fun q25 => ?_)
      · have h := h.1 q25
        refine lv_aload_n hx hb dX6_solves_31 rfl (lv_at hl 0 rfl) ?_
        refine zcallv hH (va_runV (As := []) (rest := []) hF (kX6_work l G M O _ h) (cwV 0 hts gX6_solves_X6_work rfl rfl rfl ⟨rfl, zdX6_work⟩ ⟨Nat.le_of_ble_eq_true rfl, Nat.le_of_ble_eq_true rfl⟩) (zpreV hSt hH 21 (by decide) rfl (zE_21 _ _ _) (q := (RX6, TX6, 31)) rfl []) rfl rfl hl.1 rfl (lv_room (Nat.le_of_ble_eq_true rfl)) dX6_solves_32 ⟨Nat.zero_le _, Nat.zero_le _⟩) (fun M32 H locs h hH => ?_)
        refine lv_aload_n hx hb dX6_solves_35 rfl (lv_at hl 0 rfl) ?_
        refine lv_iload_n hx hb dX6_solves_36 rfl (lv_at hl 1 rfl) ?_
        refine zcallv hH (va_runV (As := [.int x1]) (rest := []) hF (kX6_study l G M32 O x1 _ h) (cwV 1 hts gX6_solves_X6_study rfl rfl rfl ⟨rfl, zdX6_study⟩ ⟨Nat.le_of_ble_eq_true rfl, Nat.le_of_ble_eq_true rfl⟩) (zpreV hSt hH 21 (by decide) rfl (zE_21 _ _ _) (q := (RX6, TX6, 31)) rfl [.int x1]) rfl rfl hl.1 rfl (lv_room (Nat.le_of_ble_eq_true rfl)) dX6_solves_37 ⟨Nat.zero_le _, Nat.zero_le _⟩) (fun M37 H locs h hH => ?_)
        refine lv_aload_n hx hb dX6_solves_40 rfl (lv_at hl 0 rfl) ?_
        refine lv_iload_n hx hb dX6_solves_41 rfl (lv_at hl 2 rfl) ?_
        refine zcalli hH (va_runV (As := [.int x2]) (rest := []) hF (kX6_solvesFor l G M37 O x2 _ h) (cwV 1 hts gX6_solves_X6_solvesFor rfl rfl rfl ⟨rfl, zdX6_solvesFor⟩ ⟨Nat.le_of_ble_eq_true rfl, Nat.le_of_ble_eq_true rfl⟩) (zpreV hSt hH 21 (by decide) rfl (zE_21 _ _ _) (q := (RX6, TX6, 31)) rfl [.int x2]) rfl rfl hl.1 rfl (lv_room (Nat.le_of_ble_eq_true rfl)) dX6_solves_42 ⟨Nat.zero_le _, Nat.zero_le _⟩) (fun r42 M42 H locs h hH => ?_)
        refine lv_if_eq (tgt := 52) hx hb dX6_solves_45 (by decide) (fun q45 => ?_) (fun q45 => ?_)
        · have h := h.1 q45
          refine lv_iconst (v := (0 : Int32)) hx hb dX6_solves_52 (by decide) ?_
          exact wX6_solves_b53 hF hSt hret (0 : Int32) M42 H locs ls hH (lv_sub hl [] rfl) h
        · have h := h.2 q45
          refine lv_iconst (v := (1 : Int32)) hx hb dX6_solves_48 (by decide) ?_
          refine lv_goto (tgt := 53) hx hb dX6_solves_49 (by decide) ?_
          exact wX6_solves_b53 hF hSt hret (1 : Int32) M42 H locs ls hH (lv_sub hl [] rfl) h
      · have h := h.2 q25
        refine lv_bipush (v := (-2 : Int32)) hx hb dX6_solves_28 (by decide) ?_
        exact hret _ _ _ _ _ _ dX6_solves_30 h hH
    · have h := h.2 q19
      exact wX6_solves_b22 hF hSt hret M H locs ls hH (lv_sub hl [] rfl) h
set_option maxRecDepth 100000 in
theorem kX6_solves (l : Launch) (G : zG) (M O : zM) (x1 : Int32) (x2 : Int32) (post : Int32 → zM → Prop) (h : pX6_solves M x1 x2 post) : Met l yX6_solves wsX6_solves ({ frames := 4, cells := 0, slots := 0, locals := 97 } : Room) (zPc G false M O [.ref (G.1 21), .int x1, .int x2]) (va_Qi post (zB G false O) (zAA G)) 0 0 (zAA G) :=
  zmet_i (by decide) rfl (Nat.le_of_ble_eq_true rfl) (fun hF hSt hret H locs ls hH hl => wX6_solves hF hSt hret x1 x2 H locs ls hH hl h)
end
theorem znX6_key_X6 : ∀ w ∈ wsX60, w ∈ wsX6_key := fun _ h => List.mem_cons_of_mem _ (List.mem_append_right _ h)
theorem zdX6_key : yX6_key.cls ≠ "java/lang/invoke/MethodHandle" ∧ yX6_key.cls ≠ "java/lang/invoke/VarHandle" ∧ (parseMethodDescriptor yX6_key.desc).map (fun d => d.parameters.length) = some 3 := by decide +kernel
-- MixingRelaysModel key(III)I
section
variable {p : Program} {l : Launch} {e : Env} {s : State} {m : MethodId} {args : Array Value} {below : List Frame} {meth : Method} {c : Code} {Q : State → Prop} {G : zG} {O : zM}
def pX6_key_b26 (post : Int32 → zM → Prop) (M : zM) : Prop :=
  post (-1 : Int32) M
set_option maxHeartbeats 4000000 in
set_option maxRecDepth 100000 in
theorem wX6_key_b26 {post : Int32 → zM → Prop}  (hF : CallFix p m c cX6_key 4 s args wsX6_key RX6) (hSt : zSt G s) (hret : zRi p l e ({ frames := 4, cells := 0, slots := 0, locals := 97 } : Room) s m args below meth c Q cX6_key G false O post) (M : zM) (H : Heap) (locs : List Loc) (ls : Array Slot) (hH : zH G false s H locs M O) (hl : lv_has ls 4 []) (h : pX6_key_b26 post M) : W p l e ({ frames := 4, cells := 0, slots := 0, locals := 97 } : Room) s m args below meth c H locs 0 0 Q (F0 m 26 ls []) := by
  obtain ⟨hx, hb, hml, hown, hts⟩ := id hF
  unfold pX6_key_b26 at h
  refine lv_iconst (v := (-1 : Int32)) hx hb dX6_key_26 (by decide) ?_
  exact hret _ _ _ _ _ _ dX6_key_27 h hH
def pX6_key_b72 (post : Int32 → zM → Prop) (t0 : Int32) (M : zM) : Prop :=
  post t0 M
set_option maxHeartbeats 4000000 in
set_option maxRecDepth 100000 in
theorem wX6_key_b72 {post : Int32 → zM → Prop}  (hF : CallFix p m c cX6_key 4 s args wsX6_key RX6) (hSt : zSt G s) (hret : zRi p l e ({ frames := 4, cells := 0, slots := 0, locals := 97 } : Room) s m args below meth c Q cX6_key G false O post) (t0 : Int32) (M : zM) (H : Heap) (locs : List Loc) (ls : Array Slot) (hH : zH G false s H locs M O) (hl : lv_has ls 4 []) (h : pX6_key_b72 post t0 M) : W p l e ({ frames := 4, cells := 0, slots := 0, locals := 97 } : Room) s m args below meth c H locs 0 0 Q (F0 m 72 ls [.int t0]) := by
  obtain ⟨hx, hb, hml, hown, hts⟩ := id hF
  unfold pX6_key_b72 at h
  exact hret _ _ _ _ _ _ dX6_key_72 h hH
def pX6_key_b71 (post : Int32 → zM → Prop) (M : zM) : Prop :=
  pX6_key_b72 post (-1 : Int32) M
set_option maxHeartbeats 4000000 in
set_option maxRecDepth 100000 in
theorem wX6_key_b71 {post : Int32 → zM → Prop}  (hF : CallFix p m c cX6_key 4 s args wsX6_key RX6) (hSt : zSt G s) (hret : zRi p l e ({ frames := 4, cells := 0, slots := 0, locals := 97 } : Room) s m args below meth c Q cX6_key G false O post) (M : zM) (H : Heap) (locs : List Loc) (ls : Array Slot) (hH : zH G false s H locs M O) (hl : lv_has ls 4 []) (h : pX6_key_b71 post M) : W p l e ({ frames := 4, cells := 0, slots := 0, locals := 97 } : Room) s m args below meth c H locs 0 0 Q (F0 m 71 ls []) := by
  obtain ⟨hx, hb, hml, hown, hts⟩ := id hF
  unfold pX6_key_b71 at h
  refine lv_iconst (v := (-1 : Int32)) hx hb dX6_key_71 (by decide) ?_
  exact wX6_key_b72 hF hSt hret (-1 : Int32) M H locs ls hH (lv_sub hl [] rfl) h
def pX6_key (M : zM) (x1 : Int32) (x2 : Int32) (x3 : Int32) (post : Int32 → zM → Prop) : Prop :=
  pX6_isRelay M x1 (fun r2 => (r2 = 0 → pX6_key_b26 post M) ∧ (¬ (r2 = 0) → pX6_in x2 (0 : Int32) ((M.1 21 3) - (1 : Int32)) (fun r16 => (r16 = 0 → pX6_key_b26 post M) ∧ (¬ (r16 = 0) → (0 ≤ x3 → (¬ (x1 = 0) → pX6_work M  (fun M36 => pX6_study M36 x1 (fun M41 => pX6_solvesFor M41 x2 (fun r46 M46 => (r46 = 0 → pX6_key_b71 post M46) ∧ (¬ (r46 = 0) → ((M46.1 21 22) ≤ x3 → pX6_key_b71 post M46) ∧ (¬ ((M46.1 21 22) ≤ x3) → vp_in ((4 : Int32) + x3) 9 ∧ pX6_key_b72 post (M46.1 38 (((4 : Int32) + x3)).toNatClampNeg) M46)))))) ∧ (x1 = 0 → post (-2 : Int32) M)) ∧ (¬ (0 ≤ x3) → pX6_key_b26 post M)))))
set_option maxHeartbeats 4000000 in
set_option maxRecDepth 100000 in
theorem wX6_key {M : zM} {post : Int32 → zM → Prop} (hF : CallFix p m c cX6_key 4 s args wsX6_key RX6) (hSt : zSt G s) (hret : zRi p l e ({ frames := 4, cells := 0, slots := 0, locals := 97 } : Room) s m args below meth c Q cX6_key G false O post) (x1 : Int32) (x2 : Int32) (x3 : Int32) (H : Heap) (locs : List Loc) (ls : Array Slot) (hH : zH G false s H locs M O) (hl : lv_has ls 4 [(0, .ref (G.1 21)), (1, .int x1), (2, .int x2), (3, .int x3)]) (h : pX6_key M x1 x2 x3 post) : W p l e ({ frames := 4, cells := 0, slots := 0, locals := 97 } : Room) s m args below meth c H locs 0 0 Q (F0 m 0 ls []) := by
  obtain ⟨hx, hb, hml, hown, hts⟩ := id hF
  unfold pX6_key at h
  refine lv_aload_n hx hb dX6_key_0 rfl (lv_at hl 0 rfl) ?_
  refine lv_iload_n hx hb dX6_key_1 rfl (lv_at hl 1 rfl) ?_
  refine zcalliP hH (va_runV (As := [.int x1]) (rest := []) hF (kX6_isRelay l G M O x1 _ h) (cwV 1 hts gX6_key_X6_isRelay rfl rfl rfl ⟨rfl, zdX6_isRelay⟩ ⟨Nat.le_of_ble_eq_true rfl, Nat.le_of_ble_eq_true rfl⟩) (zpreV hSt hH 21 (by decide) rfl (zE_21 _ _ _) (q := (RX6, TX6, 31)) rfl [.int x1]) rfl rfl hl.1 rfl (lv_room (Nat.le_of_ble_eq_true rfl)) dX6_key_2 ⟨Nat.zero_le _, Nat.zero_le _⟩) (fun r2 H locs h hH => ?_)
  refine lv_if_eq (tgt := 26) hx hb dX6_key_5 (by decide) (fun q5 => ?_) (fun q5 => ?_)
  · have h := h.1 q5
    exact wX6_key_b26 hF hSt hret M H locs ls hH (lv_sub hl [] rfl) h
  · have h := h.2 q5
    refine lv_iload_n hx hb dX6_key_8 rfl (lv_at hl 2 rfl) ?_
    refine lv_iconst (v := (0 : Int32)) hx hb dX6_key_9 (by decide) ?_
    refine lv_aload_n hx hb dX6_key_10 rfl (lv_at hl 0 rfl) ?_
    refine zget (v := .int (M.1 21 3)) hF hSt hH 21 (by decide) rfl (zE_21 _ _ _) (C := RX6) (T := TX6) (N := 31) rfl znX6_key_X6 3 (by decide) (List.mem_of_getElem? (i := 1) rfl) rfl dX6_key_11 ?_
    refine lv_iconst (v := (1 : Int32)) hx hb dX6_key_14 (by decide) ?_
    refine lv_isub hx hb dX6_key_15 ?_
    refine zcalliP hH (va_runS (As := [.int x2, .int (0 : Int32), .int ((M.1 21 3) - (1 : Int32))]) (rest := []) hF (kX6_in l G M O x2 (0 : Int32) ((M.1 21 3) - (1 : Int32)) _ h) (va_cwS 3 hts gX6_key_X6_in rfl rfl rfl zdX6_in ⟨Nat.le_of_ble_eq_true rfl, Nat.le_of_ble_eq_true rfl⟩) (zpreS hSt hH [.int x2, .int (0 : Int32), .int ((M.1 21 3) - (1 : Int32))]) rfl rfl hl.1 rfl (lv_room (Nat.le_of_ble_eq_true rfl)) dX6_key_16 ⟨Nat.zero_le _, Nat.zero_le _⟩) (fun r16 H locs h hH => ?_)
    refine lv_if_eq (tgt := 26) hx hb dX6_key_19 (by decide) (fun q19 => ?_) (fun q19 => ?_)
    · have h := h.1 q19
      exact wX6_key_b26 hF hSt hret M H locs ls hH (lv_sub hl [] rfl) h
    · have h := h.2 q19
      refine lv_iload_n hx hb dX6_key_22 rfl (lv_at hl 3 rfl) ?_
      refine lv_if_ge (tgt := 28) hx hb dX6_key_23 (by decide) (fun q23 => ?_) (fun q23 => ?_)
      · have h := h.1 q23
        refine lv_iload_n hx hb dX6_key_28 rfl (lv_at hl 1 rfl) ?_
        refine lv_if_ne (tgt := 35) hx hb dX6_key_29 (by decide) (fun q29 => ?_) (fun q29 => ?_)
        · have h := h.1 q29
          refine lv_aload_n hx hb dX6_key_35 rfl (lv_at hl 0 rfl) ?_
          refine zcallv hH (va_runV (As := []) (rest := []) hF (kX6_work l G M O _ h) (cwV 0 hts gX6_key_X6_work rfl rfl rfl ⟨rfl, zdX6_work⟩ ⟨Nat.le_of_ble_eq_true rfl, Nat.le_of_ble_eq_true rfl⟩) (zpreV hSt hH 21 (by decide) rfl (zE_21 _ _ _) (q := (RX6, TX6, 31)) rfl []) rfl rfl hl.1 rfl (lv_room (Nat.le_of_ble_eq_true rfl)) dX6_key_36 ⟨Nat.zero_le _, Nat.zero_le _⟩) (fun M36 H locs h hH => ?_)
          refine lv_aload_n hx hb dX6_key_39 rfl (lv_at hl 0 rfl) ?_
          refine lv_iload_n hx hb dX6_key_40 rfl (lv_at hl 1 rfl) ?_
          refine zcallv hH (va_runV (As := [.int x1]) (rest := []) hF (kX6_study l G M36 O x1 _ h) (cwV 1 hts gX6_key_X6_study rfl rfl rfl ⟨rfl, zdX6_study⟩ ⟨Nat.le_of_ble_eq_true rfl, Nat.le_of_ble_eq_true rfl⟩) (zpreV hSt hH 21 (by decide) rfl (zE_21 _ _ _) (q := (RX6, TX6, 31)) rfl [.int x1]) rfl rfl hl.1 rfl (lv_room (Nat.le_of_ble_eq_true rfl)) dX6_key_41 ⟨Nat.zero_le _, Nat.zero_le _⟩) (fun M41 H locs h hH => ?_)
          refine lv_aload_n hx hb dX6_key_44 rfl (lv_at hl 0 rfl) ?_
          refine lv_iload_n hx hb dX6_key_45 rfl (lv_at hl 2 rfl) ?_
          refine zcalli hH (va_runV (As := [.int x2]) (rest := []) hF (kX6_solvesFor l G M41 O x2 _ h) (cwV 1 hts gX6_key_X6_solvesFor rfl rfl rfl ⟨rfl, zdX6_solvesFor⟩ ⟨Nat.le_of_ble_eq_true rfl, Nat.le_of_ble_eq_true rfl⟩) (zpreV hSt hH 21 (by decide) rfl (zE_21 _ _ _) (q := (RX6, TX6, 31)) rfl [.int x2]) rfl rfl hl.1 rfl (lv_room (Nat.le_of_ble_eq_true rfl)) dX6_key_46 ⟨Nat.zero_le _, Nat.zero_le _⟩) (fun r46 M46 H locs h hH => ?_)
          refine lv_if_eq (tgt := 71) hx hb dX6_key_49 (by decide) (fun q49 => ?_) (fun q49 => ?_)
          · have h := h.1 q49
            exact wX6_key_b71 hF hSt hret M46 H locs ls hH (lv_sub hl [] rfl) h
          · have h := h.2 q49
            refine lv_iload_n hx hb dX6_key_52 rfl (lv_at hl 3 rfl) ?_
            refine lv_aload_n hx hb dX6_key_53 rfl (lv_at hl 0 rfl) ?_
            refine zget (v := .int (M46.1 21 22)) hF hSt hH 21 (by decide) rfl (zE_21 _ _ _) (C := RX6) (T := TX6) (N := 31) rfl znX6_key_X6 22 (by decide) (List.mem_of_getElem? (i := 2) rfl) rfl dX6_key_54 ?_
            refine lv_icmp_ge (tgt := 71) hx hb dX6_key_57 (by decide) (fun q57 => ?_) (fun q57 => ?_)
            · have h := h.1 q57
              exact wX6_key_b71 hF hSt hret M46 H locs ls hH (lv_sub hl [] rfl) h
            · have h := h.2 q57
              refine lv_aload_n hx hb dX6_key_60 rfl (lv_at hl 0 rfl) ?_
              refine zget (v := .ref (G.1 38)) hF hSt hH 21 (by decide) rfl (zE_21 _ _ _) (C := RX6) (T := TX6) (N := 31) rfl znX6_key_X6 23 (by decide) (List.mem_of_getElem? (i := 3) rfl) rfl dX6_key_61 ?_
              refine lv_iconst (v := (4 : Int32)) hx hb dX6_key_64 (by decide) ?_
              refine lv_iload_n hx hb dX6_key_65 rfl (lv_at hl 3 rfl) ?_
              refine lv_iadd hx hb dX6_key_66 ?_
              obtain ⟨q67, h⟩ := h
              refine zald hF hSt hH 38 (by decide) rfl (zE_38 _ _ _) q67 dX6_key_67 ?_
              refine lv_goto (tgt := 72) hx hb dX6_key_68 (by decide) ?_
              exact wX6_key_b72 hF hSt hret (M46.1 38 (((4 : Int32) + x3)).toNatClampNeg) M46 H locs ls hH (lv_sub hl [] rfl) h
        · have h := h.2 q29
          refine lv_bipush (v := (-2 : Int32)) hx hb dX6_key_32 (by decide) ?_
          exact hret _ _ _ _ _ _ dX6_key_34 h hH
      · have h := h.2 q23
        exact wX6_key_b26 hF hSt hret M H locs ls hH (lv_sub hl [] rfl) h
set_option maxRecDepth 100000 in
theorem kX6_key (l : Launch) (G : zG) (M O : zM) (x1 : Int32) (x2 : Int32) (x3 : Int32) (post : Int32 → zM → Prop) (h : pX6_key M x1 x2 x3 post) : Met l yX6_key wsX6_key ({ frames := 4, cells := 0, slots := 0, locals := 97 } : Room) (zPc G false M O [.ref (G.1 21), .int x1, .int x2, .int x3]) (va_Qi post (zB G false O) (zAA G)) 0 0 (zAA G) :=
  zmet_i (by decide) rfl (Nat.le_of_ble_eq_true rfl) (fun hF hSt hret H locs ls hH hl => wX6_key hF hSt hret x1 x2 x3 H locs ls hH hl h)
end
theorem znX6_getsOf_X6 : ∀ w ∈ wsX60, w ∈ wsX6_getsOf := fun _ h => List.mem_cons_of_mem _ (List.mem_append_right _ h)
theorem zdX6_getsOf : yX6_getsOf.cls ≠ "java/lang/invoke/MethodHandle" ∧ yX6_getsOf.cls ≠ "java/lang/invoke/VarHandle" ∧ (parseMethodDescriptor yX6_getsOf.desc).map (fun d => d.parameters.length) = some 1 := by decide +kernel
-- MixingRelaysModel getsOf(I)J
section
variable {p : Program} {l : Launch} {e : Env} {s : State} {m : MethodId} {args : Array Value} {below : List Frame} {meth : Method} {c : Code} {Q : State → Prop} {G : zG} {O : zM}
def pX6_getsOf_b15 (post : Int64 → zM → Prop) (ag15 : Int64 → Int32 → zM → Prop) (x2 : Int64) (x4 : Int32) (M : zM) : Prop :=
  ((M.1 21 22) ≤ x4 → post x2 M) ∧ (¬ ((M.1 21 22) ≤ x4) → vp_in ((4 : Int32) + x4) 9 ∧ vp_in x4 4 ∧ vp_in (M.1 37 x4.toNatClampNeg) 30 ∧ pX6_product_ (M.1 38 (((4 : Int32) + x4)).toNatClampNeg) (M.2 34 ((M.1 37 x4.toNatClampNeg)).toNatClampNeg) (fun r46 => ag15 (x2 ^^^ r46) (x4 + (1 : Int32)) M))
set_option maxHeartbeats 4000000 in
set_option maxRecDepth 100000 in
theorem wX6_getsOf_b15 {post : Int64 → zM → Prop} {ag15 : Int64 → Int32 → zM → Prop} (hF : CallFix p m c cX6_getsOf 5 s args wsX6_getsOf RX6) (hSt : zSt G s) (hret : zRl p l e ({ frames := 3, cells := 0, slots := 0, locals := 69 } : Room) s m args below meth c Q cX6_getsOf G false O post) (hag15 : ∀ (x2 : Int64) (x4 : Int32) (M : zM) (H : Heap) (locs : List Loc) (ls : Array Slot), ag15 x2 x4 M → zH G false s H locs M O → lv_has ls 5 [(0, .ref (G.1 21)), (2, .long x2), (4, .int x4)] → W p l e ({ frames := 3, cells := 0, slots := 0, locals := 69 } : Room) s m args below meth c H locs 0 0 Q (F0 m 15 ls [])) (x2 : Int64) (x4 : Int32) (M : zM) (H : Heap) (locs : List Loc) (ls : Array Slot) (hH : zH G false s H locs M O) (hl : lv_has ls 5 [(0, .ref (G.1 21)), (2, .long x2), (4, .int x4)]) (h : pX6_getsOf_b15 post ag15 x2 x4 M) : W p l e ({ frames := 3, cells := 0, slots := 0, locals := 69 } : Room) s m args below meth c H locs 0 0 Q (F0 m 15 ls []) := by
  obtain ⟨hx, hb, hml, hown, hts⟩ := id hF
  unfold pX6_getsOf_b15 at h
  refine lv_iload hx hb dX6_getsOf_15 (lv_at hl 2 rfl) ?_
  refine lv_aload_n hx hb dX6_getsOf_17 rfl (lv_at hl 0 rfl) ?_
  refine zget (v := .int (M.1 21 22)) hF hSt hH 21 (by decide) rfl (zE_21 _ _ _) (C := RX6) (T := TX6) (N := 31) rfl znX6_getsOf_X6 22 (by decide) (List.mem_of_getElem? (i := 1) rfl) rfl dX6_getsOf_18 ?_
  refine lv_icmp_ge (tgt := 57) hx hb dX6_getsOf_21 (by decide) (fun q21 => ?_) (fun q21 => ?_)
  · have h := h.1 q21
    refine lv_lload_n hx hb dX6_getsOf_57 rfl (lv_at hl 1 rfl) ?_
    exact hret _ _ _ _ _ _ dX6_getsOf_58 h hH
  · have h := h.2 q21
    refine lv_lload_n hx hb dX6_getsOf_24 rfl (lv_at hl 1 rfl) ?_
    refine lv_aload_n hx hb dX6_getsOf_25 rfl (lv_at hl 0 rfl) ?_
    refine zget (v := .ref (G.1 38)) hF hSt hH 21 (by decide) rfl (zE_21 _ _ _) (C := RX6) (T := TX6) (N := 31) rfl znX6_getsOf_X6 23 (by decide) (List.mem_of_getElem? (i := 2) rfl) rfl dX6_getsOf_26 ?_
    refine lv_iconst (v := (4 : Int32)) hx hb dX6_getsOf_29 (by decide) ?_
    refine lv_iload hx hb dX6_getsOf_30 (lv_at hl 2 rfl) ?_
    refine lv_iadd hx hb dX6_getsOf_32 ?_
    obtain ⟨q33, h⟩ := h
    refine zald hF hSt hH 38 (by decide) rfl (zE_38 _ _ _) q33 dX6_getsOf_33 ?_
    refine lv_aload_n hx hb dX6_getsOf_34 rfl (lv_at hl 0 rfl) ?_
    refine zget (v := .ref (G.1 34)) hF hSt hH 21 (by decide) rfl (zE_21 _ _ _) (C := RX6) (T := TX6) (N := 31) rfl znX6_getsOf_X6 16 (by decide) (List.mem_of_getElem? (i := 3) rfl) rfl dX6_getsOf_35 ?_
    refine lv_aload_n hx hb dX6_getsOf_38 rfl (lv_at hl 0 rfl) ?_
    refine zget (v := .ref (G.1 37)) hF hSt hH 21 (by decide) rfl (zE_21 _ _ _) (C := RX6) (T := TX6) (N := 31) rfl znX6_getsOf_X6 21 (by decide) (List.mem_of_getElem? (i := 4) rfl) rfl dX6_getsOf_39 ?_
    refine lv_iload hx hb dX6_getsOf_42 (lv_at hl 2 rfl) ?_
    obtain ⟨q44, h⟩ := h
    refine zald hF hSt hH 37 (by decide) rfl (zE_37 _ _ _) q44 dX6_getsOf_44 ?_
    obtain ⟨q45, h⟩ := h
    refine zlald hF hSt hH 34 (by decide) rfl (zE_34 _ _ _) q45 dX6_getsOf_45 ?_
    refine zcalllP hH (va_runS (As := [.int (M.1 38 (((4 : Int32) + x4)).toNatClampNeg), .long (M.2 34 ((M.1 37 x4.toNatClampNeg)).toNatClampNeg)]) (rest := [.long x2]) hF (kX6_product_ l G M O (M.1 38 (((4 : Int32) + x4)).toNatClampNeg) (M.2 34 ((M.1 37 x4.toNatClampNeg)).toNatClampNeg) _ h) (va_cwS 2 hts gX6_getsOf_X6_product_ rfl rfl rfl zdX6_product_ ⟨Nat.le_of_ble_eq_true rfl, Nat.le_of_ble_eq_true rfl⟩) (zpreS hSt hH [.int (M.1 38 (((4 : Int32) + x4)).toNatClampNeg), .long (M.2 34 ((M.1 37 x4.toNatClampNeg)).toNatClampNeg)]) rfl rfl hl.1 rfl (lv_room (Nat.le_of_ble_eq_true rfl)) dX6_getsOf_46 ⟨Nat.zero_le _, Nat.zero_le _⟩) (fun r46 H locs h hH => ?_)
    refine lv_lxor hx hb dX6_getsOf_49 ?_
    refine lv_lstore_n (lv' := [(2, .long (x2 ^^^ r46)), (0, .ref (G.1 21)), (4, .int x4)]) hx hb dX6_getsOf_50 rfl hl (by decide) rfl (fun ls hl => ?_)
    refine lv_iinc (v := (x4 + (1 : Int32))) (lv' := [(4, .int (x4 + (1 : Int32))), (2, .long (x2 ^^^ r46)), (0, .ref (G.1 21))]) hx hb dX6_getsOf_51 hl (k := 2) rfl rfl (by decide) rfl (fun ls hl => ?_)
    refine lv_goto (tgt := 15) hx hb dX6_getsOf_54 (by decide) ?_
    exact hag15 (x2 ^^^ r46) (x4 + (1 : Int32)) M H locs ls h hH (lv_sub hl [2, 1, 0] rfl)
def pX6_getsOf_L15 (post : Int64 → zM → Prop) (x2 : Int64) (x4 : Int32) (M : zM) : Prop :=
  ∃ I : Nat → Int64 → Int32 → zM → Prop, (∃ n, I n x2 x4 M) ∧ ∀ n x2 x4 M, I n x2 x4 M → pX6_getsOf_b15 post (fun x2 x4 M => ∃ k, k < n ∧ I k x2 x4 M) x2 x4 M
set_option maxHeartbeats 4000000 in
theorem wX6_getsOf_L15 {post : Int64 → zM → Prop}  (hF : CallFix p m c cX6_getsOf 5 s args wsX6_getsOf RX6) (hSt : zSt G s) (hret : zRl p l e ({ frames := 3, cells := 0, slots := 0, locals := 69 } : Room) s m args below meth c Q cX6_getsOf G false O post) (x2 : Int64) (x4 : Int32) (M : zM) (H : Heap) (locs : List Loc) (ls : Array Slot) (hH : zH G false s H locs M O) (hl : lv_has ls 5 [(0, .ref (G.1 21)), (2, .long x2), (4, .int x4)]) (h : pX6_getsOf_L15 post x2 x4 M) : W p l e ({ frames := 3, cells := 0, slots := 0, locals := 69 } : Room) s m args below meth c H locs 0 0 Q (F0 m 15 ls []) := by
  obtain ⟨I, ⟨n, hI⟩, hs⟩ := h
  have key : ∀ (n : Nat) (x2 : Int64) (x4 : Int32) (M : zM) (H : Heap) (locs : List Loc) (ls : Array Slot), I n x2 x4 M → zH G false s H locs M O → lv_has ls 5 [(0, .ref (G.1 21)), (2, .long x2), (4, .int x4)] → W p l e ({ frames := 3, cells := 0, slots := 0, locals := 69 } : Room) s m args below meth c H locs 0 0 Q (F0 m 15 ls []) := by
    intro n
    induction n using Nat.strongRecOn with
    | _ n ih =>
      intro x2 x4 M H locs ls hI hH hl
      exact wX6_getsOf_b15 hF hSt hret (fun x2 x4 M H locs ls h hH hl => by obtain ⟨k, hk, hI⟩ := h; exact ih k hk x2 x4 M H locs ls hI hH hl) x2 x4 M H locs ls hH hl (hs n x2 x4 M hI)
  exact key n x2 x4 M H locs ls hI hH hl
def pX6_getsOf (M : zM) (x1 : Int32) (post : Int64 → zM → Prop) : Prop :=
  pX6_solvesFor M x1 (fun r4 M4 => (¬ (r4 = 0) → pX6_getsOf_L15 post (0 : Int64) (0 : Int32) M4) ∧ (r4 = 0 → post (0 : Int64) M4))
set_option maxHeartbeats 4000000 in
set_option maxRecDepth 100000 in
theorem wX6_getsOf {M : zM} {post : Int64 → zM → Prop} (hF : CallFix p m c cX6_getsOf 5 s args wsX6_getsOf RX6) (hSt : zSt G s) (hret : zRl p l e ({ frames := 3, cells := 0, slots := 0, locals := 69 } : Room) s m args below meth c Q cX6_getsOf G false O post) (x1 : Int32) (H : Heap) (locs : List Loc) (ls : Array Slot) (hH : zH G false s H locs M O) (hl : lv_has ls 5 [(0, .ref (G.1 21)), (1, .int x1)]) (h : pX6_getsOf M x1 post) : W p l e ({ frames := 3, cells := 0, slots := 0, locals := 69 } : Room) s m args below meth c H locs 0 0 Q (F0 m 0 ls []) := by
  obtain ⟨hx, hb, hml, hown, hts⟩ := id hF
  unfold pX6_getsOf at h
  refine lv_lconst (v := (0 : Int64)) hx hb dX6_getsOf_0 (by decide) ?_
  refine lv_lstore_n (lv' := [(2, .long (0 : Int64)), (0, .ref (G.1 21)), (1, .int x1)]) hx hb dX6_getsOf_1 rfl hl (by decide) rfl (fun ls hl => ?_)
  refine lv_aload_n hx hb dX6_getsOf_2 rfl (lv_at hl 1 rfl) ?_
  refine lv_iload_n hx hb dX6_getsOf_3 rfl (lv_at hl 2 rfl) ?_
  refine zcalli hH (va_runV (As := [.int x1]) (rest := []) hF (kX6_solvesFor l G M O x1 _ h) (cwV 1 hts gX6_getsOf_X6_solvesFor rfl rfl rfl ⟨rfl, zdX6_solvesFor⟩ ⟨Nat.le_of_ble_eq_true rfl, Nat.le_of_ble_eq_true rfl⟩) (zpreV hSt hH 21 (by decide) rfl (zE_21 _ _ _) (q := (RX6, TX6, 31)) rfl [.int x1]) rfl rfl hl.1 rfl (lv_room (Nat.le_of_ble_eq_true rfl)) dX6_getsOf_4 ⟨Nat.zero_le _, Nat.zero_le _⟩) (fun r4 M4 H locs h hH => ?_)
  refine lv_if_ne (tgt := 12) hx hb dX6_getsOf_7 (by decide) (fun q7 => ?_) (fun q7 => ?_)
  · have h := h.1 q7
    refine lv_iconst (v := (0 : Int32)) hx hb dX6_getsOf_12 (by decide) ?_
    refine lv_istore (lv' := [(4, .int (0 : Int32)), (2, .long (0 : Int64)), (0, .ref (G.1 21)), (1, .int x1)]) hx hb dX6_getsOf_13 hl (by decide) rfl (fun ls hl => ?_)
    exact wX6_getsOf_L15 hF hSt hret (0 : Int64) (0 : Int32) M4 H locs ls hH (lv_sub hl [2, 1, 0] rfl) h
  · have h := h.2 q7
    refine lv_lconst (v := (0 : Int64)) hx hb dX6_getsOf_10 (by decide) ?_
    exact hret _ _ _ _ _ _ dX6_getsOf_11 h hH
set_option maxRecDepth 100000 in
theorem kX6_getsOf (l : Launch) (G : zG) (M O : zM) (x1 : Int32) (post : Int64 → zM → Prop) (h : pX6_getsOf M x1 post) : Met l yX6_getsOf wsX6_getsOf ({ frames := 3, cells := 0, slots := 0, locals := 69 } : Room) (zPc G false M O [.ref (G.1 21), .int x1]) (va_Ql post (zB G false O) (zAA G)) 0 0 (zAA G) :=
  zmet_l (by decide) rfl (Nat.le_of_ble_eq_true rfl) (fun hF hSt hret H locs ls hH hl => wX6_getsOf hF hSt hret x1 H locs ls hH hl h)
end
