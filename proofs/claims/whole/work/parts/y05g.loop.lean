/-! The law's loop, in the machine's own. -/
theorem zall_ch {α : Type} {l : List α} {p : α → Bool} {n : Nat} (hn : 0 < n) (h : ∀ j, n * j < l.length → ((l.drop (n * j)).take n).all p = true) : ∀ x ∈ l, p x = true := by
  intro x hx
  obtain ⟨i, hi⟩ := List.getElem?_of_mem hx
  have lt := (List.getElem?_eq_some_iff.mp hi).1
  have hd := Nat.div_add_mod i n
  have hm := Nat.mod_lt i hn
  refine List.all_eq_true.mp (h (i / n) (by omega)) x (List.mem_of_getElem? (i := i % n) ?_)
  rw [List.getElem?_take, if_pos hm, List.getElem?_drop, hd]
  exact hi
theorem c262_len : c262.length = 710 := by decide +kernel
theorem c262_b : ∀ e1 ∈ c262, zch2 e1 = true := by
  refine zall_ch (n := 25) (by omega) (fun j hj => ?_)
  rw [c262_len] at hj
  have hj : j < 29 := by omega
  match j, hj with
  | 0, _ => exact c262_0
  | 1, _ => exact c262_1
  | 2, _ => exact c262_2
  | 3, _ => exact c262_3
  | 4, _ => exact c262_4
  | 5, _ => exact c262_5
  | 6, _ => exact c262_6
  | 7, _ => exact c262_7
  | 8, _ => exact c262_8
  | 9, _ => exact c262_9
  | 10, _ => exact c262_10
  | 11, _ => exact c262_11
  | 12, _ => exact c262_12
  | 13, _ => exact c262_13
  | 14, _ => exact c262_14
  | 15, _ => exact c262_15
  | 16, _ => exact c262_16
  | 17, _ => exact c262_17
  | 18, _ => exact c262_18
  | 19, _ => exact c262_19
  | 20, _ => exact c262_20
  | 21, _ => exact c262_21
  | 22, _ => exact c262_22
  | 23, _ => exact c262_23
  | 24, _ => exact c262_24
  | 25, _ => exact c262_25
  | 26, _ => exact c262_26
  | 27, _ => exact c262_27
  | 28, _ => exact c262_28
  | j + 29, hj => omega
theorem c262_ok : ∀ e1 ∈ zPR 262, ¬ e1.1 = 283 → zchk 262 e1 = true := fun e1 he hn => by
  have h := c262_b e1 he
  unfold zch2 at h
  rw [Bool.or_eq_true] at h
  rcases h with h | h
  · exact absurd (Nat.eq_of_beq_eq_true h) hn
  · exact h
theorem zx_gd : GoodIn zwd (va_wsS "SyntaxRulesLaw" 42 (zNm 261) zW261) := by
  have k : ∀ w ∈ va_wsS "SyntaxRulesLaw" 42 (zNm 261) zW261, w ∈ zwd := by
    intro w hw
    rcases List.mem_append.mp hw with z | z
    · rcases List.mem_cons.mp z with z | z
      · rw [z]; exact zx_ml
      · rcases List.mem_cons.mp z with z | z
        · rw [z]; exact zx_st
        · rcases List.mem_cons.mp z with z | z
          · rw [z]; exact zx_in
          · exact absurd z List.not_mem_nil
    · rcases List.mem_cons.mp z with z | z
      · rw [z]; exact zx_cw
      · exact z
  exact fun w hw => ⟨k w hw, zwd_good w (k w hw)⟩
theorem aNod_in {h : zH} {a : Nat} {t : Int → Int} {n nd nc : Int} {T C : pT} {i q : Int} (g : sF t n nd nc T C) (x : xN h a t n nd nc T C) (hi : 0 ≤ i ∧ i < nd) (r : ∀ a k, inR (gI h a k)) : inR (aNod T i q) := by
  have y := x.2.2.2.1 i hi.1 hi.2
  have z := g.be hi.1 hi.2
  have hn := g.hn
  have r0 := r (a + 3) i
  have r1 := r (a + 4) i
  have r2 := r (a + 5) i
  have r3 := r (a + 6) i
  have r4 := r (a + 7) i
  have r6 := r (a + 9) i
  have r7 := r (a + 10) i
  rw [y.1] at r0
  rw [y.2.1] at r1
  rw [y.2.2.1] at r2
  rw [y.2.2.2.1] at r3
  rw [y.2.2.2.2.1] at r4
  rw [y.2.2.2.2.2.2.1] at r6
  rw [y.2.2.2.2.2.2.2.1] at r7
  unfold aNod
  by_cases c0 : q = 0
  · rw [if_pos c0]; exact r0
  rw [if_neg c0]
  by_cases c1 : q = 1
  · rw [if_pos c1]; exact r1
  rw [if_neg c1]
  by_cases c2 : q = 2
  · rw [if_pos c2]; exact r2
  rw [if_neg c2]
  by_cases c3 : q = 3
  · rw [if_pos c3]; exact r3
  rw [if_neg c3]
  by_cases c4 : q = 4
  · rw [if_pos c4]; exact r4
  rw [if_neg c4]
  by_cases c5 : q = 5
  · rw [if_pos c5]; unfold inR; omega
  rw [if_neg c5]
  by_cases c6 : q = 6
  · rw [if_pos c6]; exact r6
  rw [if_neg c6]
  by_cases c7 : q = 7
  · rw [if_pos c7]; exact r7
  rw [if_neg c7]
  unfold inR; omega
theorem turnE {h : zH} {i : Int} {u5 u6 : zV} {K : Nat → List zV → List zV → zH → Prop} (hi : ¬ i + 5 ≤ Int.ofNat (ln h 1)) (l : Int.ofNat (ln h 1) ≤ 2560) (k : K 1134 (lws i u5 u6) [] h) : zU K 23 (lws i u5 u6) [] h := by
  have z : (0 : Int) ≤ Int.ofNat (ln h 1) := by show (0 : Int) ≤ ((ln h 1 : Nat) : Int); omega
  exact q23 1 2 127 170 i u5 u6 h K ⟨by unfold inR; omega, fun _ => zU_k k, fun z => absurd (by omega) z⟩
section ZF
variable {p : Program} {l : Launch} {e : Env} {R : Room} {s : State} {m : MethodId} {args : Array Value} {below : List Frame} {meth : Method} {c : Code} {H : Heap} {locs : List Loc} {cells slots : Nat} {Q : State → Prop}
variable {b base : Nat} {D : va_G} {h h1 : zH} {lsr : Array Slot} {i q : Int}
set_option maxRecDepth 1000000 in
/-- the law calls node -/
theorem zcal61 {ls : List zV} (C : zctx 262 p R s m args meth c) (F : zfrm b base D s 262 ls [vR 170 0, vI q, vI i, vR 2 0] h H locs lsr) {P : Int32 → zH → Prop} (hM : vx_Met l (zNm 261) zW261 zR261 (zP6 b base D (za61 i q) h) (zQ261 b base D P) (fun _ _ _ => False) 1 6 (fun q => base ≤ q)) (hX : zXf base s) (hroom : cells + 1 ≤ R.cells ∧ slots + 6 ≤ R.slots) (hRf : 10 ≤ R.frames ∧ 324 ≤ R.locals)
    (k : ∀ v hf H1 locs1, P v hf → zRel b base D s hf H1 → (∀ q ∈ locs1, base ≤ q.base) → W p l e R s m args below meth c H1 locs1 (cells + 1) (slots + 6) Q (F0 m 286 lsr [.int v])) : W p l e R s m args below meth c H locs cells slots Q (F0 m 283 lsr ([vR 170 0, vI q, vI i, vR 2 0].map (zrv b base))) := by
  refine zWS (base := base) F.2.1 (fun hS => ?_)
  have hts := C.2.2.2.2.2.1
  have hsizes : lsr.size = 7 := F.2.2.2.1.1
  have hr := vx_runSX (hh := [(0, 10, 13, 13)]) (As := (za61 i q).map (zrv b base)) (rest := []) (n := 4) (g := F0 m 283 lsr ([vR 170 0, vI q, vI i, vR 2 0].map (zrv b base))) (cells := cells) (slots := slots) (R := R) (l := l) (e := e) (below := below) (meth := meth) (H := H) (locs := locs) (p := p) (cc := zB 262) (nL := 7) (Ts := zwd) (own := "SyntaxRulesLaw") (index := 42) ⟨C.1, C.2.1, C.2.2.2.1, C.2.2.2.2.1, hts⟩ hM (vx_cwSW (bytes := zB 261) (maxL := 5) (ret := some .int) 4 hts zx_gd rfl rfl rfl (by decide +kernel) ⟨hRf.1, hRf.2⟩) ⟨zP6_blind, fun U hU hW => ⟨⟨rfl, by rw [hU]; exact F.1.moved hW.alike, C.2.2.2.2.2.2.2.1.warm hW⟩, hX.to hS hU hW⟩⟩ rfl rfl hsizes rfl (lv_room (Nat.le_of_ble_eq_true rfl)) (show decode (zB 262) 283 = .ok (.invokestatic 42, 3) from by decide +kernel) hroom
  intro T hT X
  rcases hr T hT X with ⟨v, st₀, t, T', L, h0, X', hL, e1, e2, ⟨v1, hf, q1, q2, q3⟩, stp⟩ | ⟨q9, st₀, t, T', L, E, ce, h0, X', hL, e1, e2, hx, hce, hcv, hcl, stp⟩
  · cases q1
    have hvm : t.vm.Alike s.vm := by rw [← e2]; exact X'.warmed.alike.symm
    obtain ⟨t2, a1, b1⟩ := k v1 hf T'.heap (locs ++ L) q3 (by rw [e1]; exact q2.moved hvm) (fun q hq => by
      rcases List.mem_append.mp hq with w | w
      · exact F.2.1 q w
      · exact hL q w) T' rfl X'
    exact ⟨t2, stp t2 a1, b1⟩
  · exact hx.elim
theorem zle_o {v : Int} : zle h (sI h 170 0 v) := ⟨Nat.le_refl _, Nat.le_refl _, fun _ _ => ⟨rfl, fun _ => rfl⟩⟩
theorem zle_n {t n : Nat} : zle h (nw h t n) := ⟨Nat.le_succ _, Nat.le_add_right _ _, fun a ha => ⟨by rw [lnN, if_neg (by omega)], fun _ => by rw [tgN, if_neg (by omega)]⟩⟩
set_option maxHeartbeats 4000000 in
theorem zloop (hck : ∀ y ∈ zcal, ∀ e1 ∈ zPR y, zchk y e1 = true) (hl : l.stackTraces = false) (C : zctx 262 p R s m args meth c) (hX : zXf base s) (hRf : 10 ≤ R.frames ∧ 324 ≤ R.locals) (hRc : 600000 ≤ R.cells ∧ 7000000 ≤ R.slots)
    (hEnd : ∀ H1 locs1 lsr1 cells1 slots1, cells1 ≤ 600000 → slots1 ≤ 7000000 → (∀ q ∈ locs1, base ≤ q.base) → W p l e R s m args below meth c H1 locs1 cells1 slots1 Q (F0 m 1134 lsr1 [])) :
    ∀ (f : Nat) (i : Int) (u5 u6 : zV) (h : zH) (H : Heap) (locs : List Loc) (lsr : Array Slot) (cells slots : Nat), CI h → zfrm b base D s 262 (lws i u5 u6) [] h H locs lsr → 0 ≤ i → Int.ofNat (ln h 1) ≤ 2560 → Int.ofNat (ln h 1) - i ≤ 5 * f → cells + 16 * f ≤ 600000 → slots + 804 * f ≤ 7000000 → W p l e R s m args below meth c H locs cells slots Q (F0 m 23 lsr []) := by
  intro f
  induction f with
  | zero =>
    intro i u5 u6 h H locs lsr cells slots x F i0 hl0 hm hc hs
    have hln : ln h 1 < 2 ^ 31 := by
      have z : ((ln h 1 : Nat) : Int) ≤ 2560 := hl0
      omega
    obtain ⟨n, k⟩ := turnE (u5 := u5) (u6 := u6) (K := fun pc ls st h1 => pc = 1134 ∧ st = [] ∧ h1 = h) (i := i) (h := h) (by omega) hl0 ⟨rfl, rfl, rfl⟩
    refine zVsim hck (bad := 283) c262_ok C n 23 _ [] h H locs lsr cells slots (zUn_V _ _ _ _ _ k) F hln ⟨by omega, by omega⟩ (fun pc1 ls1 st1 h1 k1 => ?_) (fun pc1 ls1 st1 h1 H1 locs1 lsr1 k1 hle F1 => ?_)
    · obtain ⟨-, -, rfl⟩ := k1
      rw [Nat.sub_self, Nat.sub_self]
      exact ⟨by omega, by omega⟩
    · obtain ⟨rfl, rfl, rfl⟩ := k1
      rw [Nat.sub_self, Nat.sub_self]
      exact hEnd _ _ _ _ _ (by omega) (by omega) F1.2.1
  | succ f ih =>
    intro i u5 u6 h H locs lsr cells slots x F i0 hl0 hm hc hs
    have hln : ln h 1 < 2 ^ 31 := by
      have z : ((ln h 1 : Nat) : Int) ≤ 2560 := hl0
      omega
    by_cases hi : i + 5 ≤ Int.ofNat (ln h 1)
    · -- from a place behind the calls to the loop's head
      have go : ∀ (pc0 : Nat) (ls0 st0 : List zV) (hf : zH) (H2 : Heap) (locs2 : List Loc) (lsr2 : Array Slot) (cells2 slots2 : Nat), ln hf 1 = ln h 1 → cells2 ≤ cells + 1 → slots2 ≤ slots + 6 → zU (fun pc ls st h2 => pc = 23 ∧ st = [] ∧ (∃ w5 w6, ls = lws (i + 5) w5 w6) ∧ ciX hf h2) pc0 ls0 st0 hf → zfrm b base D s 262 ls0 st0 hf H2 locs2 lsr2 → W p l e R s m args below meth c H2 locs2 cells2 slots2 Q (F0 m pc0 lsr2 (st0.map (zrv b base))) := by
        intro pc0 ls0 st0 hf H2 locs2 lsr2 cells2 slots2 el hc2 hs2 k F2
        obtain ⟨n, k⟩ := k
        refine zVsim hck (bad := 283) c262_ok C n pc0 _ _ hf H2 locs2 lsr2 cells2 slots2 (zUn_V _ _ _ _ _ k) F2 (by rw [el]; exact hln) ⟨by omega, by omega⟩ (fun pc1 ls1 st1 h1 k1 => ?_) (fun pc1 ls1 st1 h1 H1 locs1 lsr1 k1 hle F1 => ?_)
        · obtain ⟨-, -, -, k1⟩ := k1
          have n1 := k1.2.1
          have n2 := k1.2.2.1
          exact ⟨by omega, by omega⟩
        · obtain ⟨rfl, rfl, ⟨w5, w6, rfl⟩, k1⟩ := k1
          have n1 := k1.2.1
          have n2 := k1.2.2.1
          have n3 := k1.2.2.2.2
          exact ih (i + 5) w5 w6 h1 H1 locs1 lsr1 _ _ k1.1 F1 (by omega) (by rw [n3, el]; exact hl0) (by rw [n3, el]; omega) (by omega) (by omega)
      obtain ⟨n, k⟩ := turn (u5 := u5) (u6 := u6) (K := fun pc ls st h2 => (pc = 23 ∧ st = [] ∧ (∃ w5 w6, ls = lws (i + 5) w5 w6) ∧ ciX h h2) ∨ (pc = 283 ∧ st = [vR 170 0, vI (gI h 1 (i + 2)), vI (gI h 1 (i + 1)), vR 2 0] ∧ ls = lws i u5 u6 ∧ h2 = h)) x i0 hi hl0 (fun h2 y => Or.inl ⟨rfl, rfl, ⟨u5, u6, rfl⟩, y⟩) (Or.inr ⟨rfl, rfl, rfl, rfl⟩)
      refine zVsim hck (bad := 283) c262_ok C n 23 _ [] h H locs lsr cells slots (zUn_V _ _ _ _ _ k) F hln ⟨by omega, by omega⟩ (fun pc1 ls1 st1 h1 k1 => ?_) (fun pc1 ls1 st1 h1 H1 locs1 lsr1 k1 hle F1 => ?_)
      · rcases k1 with ⟨-, -, -, k1⟩ | ⟨-, -, -, rfl⟩
        · have n1 := k1.2.1
          have n2 := k1.2.2.1
          exact ⟨by omega, by omega⟩
        · rw [Nat.sub_self, Nat.sub_self]
          exact ⟨by omega, by omega⟩
      · rcases k1 with ⟨rfl, rfl, ⟨w5, w6, rfl⟩, k1⟩ | ⟨rfl, rfl, rfl, rfl⟩
        · have n1 := k1.2.1
          have n2 := k1.2.2.1
          have n3 := k1.2.2.2.2
          exact ih (i + 5) w5 w6 h1 H1 locs1 lsr1 _ _ k1.1 F1 (by omega) (by rw [n3]; exact hl0) (by rw [n3]; omega) (by omega) (by omega)
        · rw [Nat.sub_self, Nat.sub_self]
          have r : ∀ a k, inR (gI h1 a k) := F1.1.2.2.2.2.2.1
          obtain ⟨a, a2, S, rn, rt, rs, ty, m0, c0, pt, pn, x⟩ := x
          have xF := x.2.2.2.2.2
          have U : xU h1 a S.1 S.2 (qN S) (qC S) (qT S) (qK S) := ⟨x.1.1.1, x.1.1.2.2.1, x.1.2.2.1⟩
          by_cases hv : 0 ≤ gI h1 1 (i + 1) ∧ gI h1 1 (i + 1) < qN S
          · refine zcal61 C F1 (z261v hck (w := aNod (qT S) (gI h1 1 (i + 1)) (gI h1 1 (i + 2))) (r _ _) (r _ _) (aNod_in x.1.2.1 x.1.2.2.1 hv r) xF.2.1.2.1 xF.2.1.1 hln (s6 x.1.2.1 U hv ⟨rfl, rfl⟩)) hX ⟨by omega, by omega⟩ hRf (fun v hf H2 locs2 hP hR2 hl2 => ?_)
            obtain ⟨rfl, rfl⟩ := hP
            have x2 := x.z (frY_o (v := aNod (qT S) (gI h1 1 (i + 1)) (gI h1 1 (i + 2))))
            have e1 : ∀ k, gI (sI h1 170 0 (aNod (qT S) (gI h1 1 (i + 1)) (gI h1 1 (i + 2)))) 1 k = gI h1 1 k := fun k => by rw [gS, if_neg (by omega)]
            refine go 286 (lws i u5 u6) [vI 0] (sI h1 170 0 (aNod (qT S) (gI h1 1 (i + 1)) (gI h1 1 (i + 2)))) H2 locs2 lsr1 (cells + 0 + 1) (slots + 0 + 6) rfl (by omega) (by omega) (turn0 x2 i0 hi hl0 (by rw [gS1]) ⟨by rw [e1]; exact hv, by rw [e1, e1]⟩ (fun h2 w6 y => ⟨rfl, rfl, ⟨_, _, rfl⟩, y⟩)) ?_
            exact ⟨hR2, hl2, F1.2.2.1, F1.2.2.2.1, fun v hv => zok_mono zle_o (F1.2.2.2.2.1 v hv), List.forall_mem_cons.mpr ⟨⟨(by unfold inR; omega : inR 0), rfl⟩, fun _ z => absurd z List.not_mem_nil⟩, F1.2.2.2.2.2.2⟩
          · have h30 : zC1 30 [vR 2 100, vI (gI h1 1 (i + 1))] h1 (fun v h2 => v = 0 ∧ h2 = h1) := s30 U ⟨b2i_neg hv, rfl⟩
            refine zcal61 C F1 (z261x hck (r _ _) (r _ _) xF.2.1.2.1 xF.2.1.1 hln (z6 hck hl (r _ _) (r _ _) xF.2.1.2.1 hln h30)) hX ⟨by omega, by omega⟩ hRf (fun v hf H2 locs2 hP hR2 hl2 => ?_)
            obtain ⟨rfl, hP⟩ := hP
            have o1 : inR 1 := by unfold inR; omega
            rcases hP with rfl | rfl
            · refine go 286 (lws i u5 u6) [vI 1] hf H2 locs2 lsr1 (cells + 0 + 1) (slots + 0 + 6) rfl (by omega) (by omega) (turn1 x i0 hi hl0 hv (fun h2 w6 y => ⟨rfl, rfl, ⟨_, _, rfl⟩, y⟩)) ?_
              exact ⟨hR2, hl2, F1.2.2.1, F1.2.2.2.1, F1.2.2.2.2.1, List.forall_mem_cons.mpr ⟨⟨o1, rfl⟩, fun _ z => absurd z List.not_mem_nil⟩, F1.2.2.2.2.2.2⟩
            · have x2 := x.z (frY_n (t := 50) (n := 6))
              have nx1 := xF.1
              have e1 : ∀ k, gI (nw h1 50 6) 1 k = gI h1 1 k := fun k => by rw [gN, if_neg (by omega)]
              have e2 : ln (nw h1 50 6) 1 = ln h1 1 := by rw [lnN, if_neg (by omega)]
              refine go 286 (lws i u5 u6) [vI 1] (nw h1 50 6) H2 locs2 lsr1 (cells + 0 + 1) (slots + 0 + 6) e2 (by omega) (by omega) (turn1 x2 i0 (by rw [e2]; exact hi) (by rw [e2]; exact hl0) (by rw [e1]; exact hv) (fun h2 w6 y => ⟨rfl, rfl, ⟨_, _, rfl⟩, y⟩)) ?_
              exact ⟨hR2, hl2, F1.2.2.1, F1.2.2.2.1, fun v hv => zok_mono zle_n (F1.2.2.2.2.1 v hv), List.forall_mem_cons.mpr ⟨⟨o1, rfl⟩, fun _ z => absurd z List.not_mem_nil⟩, F1.2.2.2.2.2.2⟩
    · obtain ⟨n, k⟩ := turnE (u5 := u5) (u6 := u6) (K := fun pc ls st h1 => pc = 1134 ∧ st = [] ∧ h1 = h) (i := i) (h := h) hi hl0 ⟨rfl, rfl, rfl⟩
      refine zVsim hck (bad := 283) c262_ok C n 23 _ [] h H locs lsr cells slots (zUn_V _ _ _ _ _ k) F hln ⟨by omega, by omega⟩ (fun pc1 ls1 st1 h1 k1 => ?_) (fun pc1 ls1 st1 h1 H1 locs1 lsr1 k1 hle F1 => ?_)
      · obtain ⟨-, -, rfl⟩ := k1
        rw [Nat.sub_self, Nat.sub_self]
        exact ⟨by omega, by omega⟩
      · obtain ⟨rfl, rfl, rfl⟩ := k1
        rw [Nat.sub_self, Nat.sub_self]
        exact hEnd _ _ _ _ _ (by omega) (by omega) F1.2.1
end ZF
