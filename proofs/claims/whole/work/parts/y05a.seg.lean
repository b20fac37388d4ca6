/-! Pieces of a method's run. -/
/-- the same over any list of instructions of the method -/
def zVn (cd : List zE) (bad : Nat) (K : Nat → List zV → List zV → zH → Prop) : Nat → Nat → List zV → List zV → zH → Prop
  | 0, pc, ls, st, h => K pc ls st h
  | n + 1, pc, ls, st, h => K pc ls st h ∨ (¬ pc = bad ∧ ∃ len E ops, zfind pc cd = some (len, E, ops) ∧ zwp zPR zLM (zstp E ops pc len ls st h) ls h (fun pc1 ls1 st1 h1 => zVn cd bad K n pc1 ls1 st1 h1) (fun _ _ => False))
theorem zUn_V {y bad : Nat} {K : Nat → List zV → List zV → zH → Prop} : ∀ (n pc : Nat) (ls st : List zV) (h : zH), zUn y bad K n pc ls st h → zVn (zPR y) bad K n pc ls st h := by
  intro n
  induction n with
  | zero => intro pc ls st h k; exact k
  | succ n ih =>
    intro pc ls st h k
    rcases k with k | ⟨h0, len, E, ops, hf, k⟩
    · exact Or.inl k
    · exact Or.inr ⟨h0, len, E, ops, hf, zwp_mono (fun a b c d q => ih _ _ _ _ q) k⟩
section ZS
variable {p : Program} {l : Launch} {e : Env} {R : Room} {s : State} {m : MethodId} {args : Array Value} {below : List Frame} {meth : Method} {c : Code} {H : Heap} {locs : List Loc} {cells slots : Nat} {Q : State → Prop}
variable {b base : Nat} {D : va_G} {y pc : Nat} {ls st st1 ls1 r : List zV} {h h1 : zH} {lsr lsr1 : Array Slot} {v v1 v2 v3 v4 : zV}
set_option maxHeartbeats 4000000 in
/-- a call that comes back -/
theorem zcall1 (hck : ∀ y ∈ zcal, ∀ e1 ∈ zPR y, zchk y e1 = true) {E : Instr} {len : Nat} {ops : List Nat} {y1 k1 pc1 n : Nat} {as1 rest : List zV} {r1 : Option zV} (C : zctx y p R s m args meth c) (F : zfrm b base D s y ls st h H locs lsr) (hln : ln h 1 < 2 ^ 31) (hd : decode (zB y) pc = .ok (E, len)) (hs : zsta y pc E len ops = true) (hg : zg (zstp E ops pc len ls st h).1 True) (h2 : (zstp E ops pc len ls st h).2 = some (.inr (.inr (y1, k1, as1, rest, pc1)))) (hc : zrun zPR zLM n y1 0 (zpad (zLM y1) (zents as1)) [] h = some (r1, h1))
    (hroom : cells + (nx h1 - nx h) ≤ R.cells ∧ slots + (sc h1 - sc h) ≤ R.slots)
    (cont0 : ∀ H1 locs1, zfrm b base D s y ls (r1.toList ++ rest) h1 H1 locs1 lsr → W p l e R s m args below meth c H1 locs1 (cells + (nx h1 - nx h)) (slots + (sc h1 - sc h)) Q (F0 m pc1 lsr ((r1.toList ++ rest).map (zrv b base)))) : W p l e R s m args below meth c H locs cells slots Q (F0 m pc lsr (st.map (zrv b base))) := by
  have h2n := F.1.1
  obtain ⟨es, gs, e2, e3, e4, e5, e6, e7, e8⟩ := zcall_shape hs hg h2
  rcases e8 with e8 | ⟨i, kd, e8, e9⟩
  · rw [e8, zrun_9990] at hc; cases hc
  subst e2; subst e6; subst e7
  have hcal := zcs_cal e8 e9
  obtain ⟨vs, ws, p1, p2, p3, p4, p5, p6, p7⟩ := zpop_ok (b := b) (base := base) _ _ _ _ _ _ _ e3 e4
  rw [List.append_nil] at p2
  subst p2
  subst p1
  have hst := F.2.2.2.2.2.1
  have hc8 := zrest_cat (b := b) (base := base) hst e5
  have hle1 := zrun_zle hck n y1 _ _ _ _ _ _ (hck y1 hcal) hc
  have hkd : zesb es = true ∧ (znl y1 == !(es.elem 1)) = true ∧ zsz es ≤ zLM y1 ∧ zFr y1 + 1 ≤ zFr y ∧ 8 + (zLM y1 + 11) + zLo y1 ≤ zLo y := by
    have z := e9
    unfold zinb at z
    rw [Bool.and_eq_true] at z
    have z := z.2
    rcases e8 with ⟨-, rfl⟩ | ⟨-, rfl | rfl⟩ | ⟨-, rfl | rfl⟩ <;> simp only [Bool.and_eq_true] at z <;> exact ⟨z.1.1.1.1.1, z.1.1.1.1.2, Nat.le_of_ble_eq_true z.1.1.1.2, Nat.le_of_ble_eq_true z.1.1.2, Nat.le_of_ble_eq_true z.1.2⟩
  obtain ⟨k1, k2, k3, k4, k5⟩ := hkd
  have hes : ∀ e1 ∈ es, e1 ≤ 1 ∨ zperm e1 := by
    intro e1 he1
    have := List.all_eq_true.mp k1 e1 he1
    rw [Bool.or_eq_true] at this
    exact this.imp Nat.le_of_ble_eq_true zpermb_ok
  have hokw := p5 (fun v hv => hst v (List.mem_append_left _ hv)) hes
  have hok : ∀ v ∈ ws.reverse, zok h v ∧ zun v = false := fun v hv => hokw v (List.mem_reverse.mp hv)
  have hsz : (zents ws.reverse).length ≤ zLM y1 := by rw [zents_rev, zsz_eq es ws p3 p7]; exact k3
  have hnl : znl y1 = true → ∀ v ∈ ws.reverse, zlong v = false := by
    intro z v hv
    rw [z] at k2
    have hne : ¬ (1 ∈ es) := by simpa using k2
    obtain ⟨j, hj⟩ := List.getElem?_of_mem (List.mem_reverse.mp hv)
    have hjl := (List.getElem?_eq_some_iff.mp hj).1
    obtain ⟨e1, he1⟩ : ∃ e1, es[j]? = some e1 := ⟨_, List.getElem?_eq_getElem (by omega)⟩
    refine (p7 j e1 v he1 hj).1 (fun w => hne ?_)
    rw [← w]
    exact List.mem_of_getElem? he1
  have hMet := (zsim (l := l) (b := b) (base := base) (D := D) hck n).met hck hcal hc hln hok hsz hnl
  obtain ⟨m1, m2, m3⟩ := zMb_at hcal
  have hts := C.2.2.2.2.2.1
  have hini : (Cond.initialized (zNm y1).cls).before args s = true := hts _ (zMy_w y1 hcal _ (List.mem_cons_of_mem _ List.mem_cons_self))
  have hS : CallFix p m c (zB y) (zLM y) s args zwd (zOwS (zow y)) := ⟨C.1, C.2.1, C.2.2.2.1, C.2.2.2.2.1, hts⟩
  have hRm : (zrm y1 (nx h1 - nx h) (sc h1 - sc h)).frames + 1 ≤ R.frames ∧ 8 + (zLM y1 + 11) + (zrm y1 (nx h1 - nx h) (sc h1 - sc h)).locals ≤ R.locals := ⟨Nat.le_trans k4 C.2.2.2.2.2.2.2.2.2.1, Nat.le_trans k5 C.2.2.2.2.2.2.2.2.2.2⟩
  have hpre : ∀ U : State, U.heap = H → s.WarmedH U.vm → zPc b base D ws.reverse h (ws.reverse.map (zrv b base)).toArray U := fun U hU hW => ⟨rfl, by rw [hU]; exact F.1.moved hW.alike, C.2.2.2.2.2.2.2.1.warm hW⟩
  have cont : ∀ (H1 : Heap) (locs1 : List Loc), zRel b base D s h1 H1 → (∀ v, r1 = some v → zok h1 v ∧ zun v = false) → ((∀ q ∈ locs, base ≤ q.base) → ∀ q ∈ locs1, base ≤ q.base) → W p l e R s m args below meth c H1 locs1 (cells + (nx h1 - nx h)) (slots + (sc h1 - sc h)) Q (F0 m (pc + 3) lsr ((r1.map (zrv b base)).toList ++ rest.map (zrv b base))) := by
    intro H1 locs1 r3 r4 r5
    have F1 : zfrm b base D s y ls (r1.toList ++ rest) h1 H1 locs1 lsr := ⟨r3, r5 F.2.1, F.2.2.1, F.2.2.2.1, fun v hv => zok_mono hle1 (F.2.2.2.2.1 v hv), fun v hv => by
      rcases List.mem_append.mp hv with w | w
      · exact r4 v (by cases r1 with
          | none => exact absurd w List.not_mem_nil
          | some u => rw [List.mem_singleton.mp w])
      · exact ⟨zok_mono hle1 (hst v (List.mem_append_right _ w)).1, (hst v (List.mem_append_right _ w)).2⟩, F.2.2.2.2.2.2⟩
    have k := cont0 H1 locs1 F1
    rw [List.map_append] at k
    have e3 : (r1.map (zrv b base)).toList = r1.toList.map (zrv b base) := by cases r1 <;> rfl
    rw [e3]
    exact k
  have hstk : (vs ++ rest).map (zrv b base) = (ws.reverse.map (zrv b base)).reverse ++ rest.map (zrv b base) := by rw [List.map_append, ← p4, List.map_reverse, List.reverse_reverse]
  have hsizes : lsr.size = zLM y := F.2.2.2.1.1
  have hlen : (ws.reverse.map (zrv b base)).length = es.length := by rw [List.length_map, List.length_reverse, p3]
  have hm := zinb_el e9
  have hmw := zML_w _ _ hm
  have hmb := zML_b hm
  have last := e9
  unfold zinb at last
  rw [Bool.and_eq_true] at last
  have last := last.2
  rw [hstk]
  rcases e8 with ⟨rfl, rfl⟩ | ⟨rfl, rfl | rfl⟩ | ⟨rfl, rfl | rfl⟩
  · simp only [Bool.and_eq_true, decide_eq_true_eq] at last
    obtain ⟨-, ⟨l1, l2⟩, l3⟩ := last
    have l1 := Nat.eq_of_beq_eq_true l1
    have l3 : zow y1 < 12 := by rw [Nat.blt_eq] at l3; exact l3
    cases hwr : ws.reverse with
    | nil =>
      exfalso
      have := congrArg List.length hwr
      rw [List.length_reverse, p3, l1] at this
      cases this
    | cons rc As =>
      obtain ⟨x, hx⟩ := (zlast l2 hwr p3 p7).2.2.1 (by omega)
      subst hx
      rw [hwr] at hMet hpre hlen
      have hv : zok h (.inr (.inl (x, 100 + zow y1))) := (hok _ (by rw [hwr]; exact List.mem_cons_self)).1
      have hv := (hv.resolve_left (by show ¬ (100 + zow y1 = 0); omega)).2
      obtain ⟨x1, x2, x3⟩ := zty_obj l3 hv
      obtain ⟨cellB, g1, g2, g3, -⟩ := (show zobj (zow y1) x h from ⟨x1, x2, Or.inl x3⟩).ob l3 F.1
      have hcl : s.vm.findClass (zNm y1).cls = some cellB.cls := by
        rw [m1, g2]
        have := (F.1.2.2.2.2.2.2.2.1 (zow y1) _ (zcr_at l3)).2.1
        rw [zOwS_cr l3]
        exact this
      have ex : zrv b base (.inr (.inl (x, 100 + zow y1))) = .ref (zra b base x) := zref_nz x1
      rw [List.map_cons, ex] at hpre hlen ⊢
      rw [List.reverse_cons, List.append_assoc]
      refine zafter (va_runV (C := (zNm y1).cls) (As := As.map (zrv b base)) (n := zNp y1) hS hMet ⟨callB_of (zNp y1) hts (zgood hcal) rfl rfl rfl hini (hts _ (hmw _ List.mem_cons_self)) m2 hRm, hts _ (hmw _ (List.mem_cons_of_mem _ List.mem_cons_self)), hts _ (hmw _ (List.mem_cons_of_mem _ (List.mem_cons_of_mem _ List.mem_cons_self)))⟩ ⟨zPc_blind, ⟨cellB, g1, by rw [g3]; rfl, hcl⟩, hpre⟩ rfl (by rw [List.length_cons] at hlen; omega) hsizes rfl (lv_room hc8) hd hroom) cont
  · simp only [Bool.and_eq_true, decide_eq_true_eq] at last
    obtain ⟨-, l1, l2⟩ := last
    have l1 := Nat.eq_of_beq_eq_true l1
    simp only [zMLb, Bool.and_eq_true, decide_eq_true_eq] at hmb
    cases hwr : ws.reverse with
    | nil =>
      exfalso
      have := congrArg List.length hwr
      rw [List.length_reverse, p3, l1] at this
      cases this
    | cons rc As =>
      obtain ⟨x, hx, hx0⟩ := (zlast l2 hwr p3 p7).2.2.2 rfl
      subst hx
      rw [hwr] at hMet hpre hlen
      have ex : zrv b base (.inr (.inl (x, 0))) = .ref (zra b base x) := by show va_rf (zro b base x) = _; rw [zro_some hx0]; rfl
      rw [List.map_cons, ex] at hpre hlen ⊢
      rw [List.reverse_cons, List.append_assoc]
      have hret : zRt y1 = none := zinit_ret hcal hmb.2
      have hcb : CallB R s args (zOwS (zow y)) i (zNm y1) (zB y1) (zLM y1) none (zwsl y1) (zrm y1 (nx h1 - nx h) (sc h1 - sc h)) (nx h1 - nx h) (sc h1 - sc h) (zNp y1) := by
        rw [← hret]
        exact callB_of (zNp y1) hts (zgood hcal) rfl rfl rfl hini (hts _ (hmw _ List.mem_cons_self)) m2 hRm
      refine zafter (va_runI (As := As.map (zrv b base)) (n := zNp y1) hS hMet ⟨hcb, hmb.2, hts _ (hmw _ (List.mem_cons_of_mem _ List.mem_cons_self))⟩ ⟨zPc_blind, hpre⟩ rfl (by rw [List.length_cons] at hlen; omega) hsizes rfl (lv_room hc8) hd hroom) cont
  · simp only [Bool.and_eq_true, decide_eq_true_eq] at last
    obtain ⟨-, l1, l2⟩ := last
    have l1 := Nat.eq_of_beq_eq_true l1
    simp only [zMLb, Bool.and_eq_true, decide_eq_true_eq] at hmb
    cases hwr : ws.reverse with
    | nil =>
      exfalso
      have := congrArg List.length hwr
      rw [List.length_reverse, p3, l1] at this
      cases this
    | cons rc As =>
      obtain ⟨x, hx, hx0⟩ := (zlast l2 hwr p3 p7).2.2.2 rfl
      subst hx
      rw [hwr] at hMet hpre hlen
      have ex : zrv b base (.inr (.inl (x, 0))) = .ref (zra b base x) := by show va_rf (zro b base x) = _; rw [zro_some hx0]; rfl
      rw [List.map_cons, ex] at hpre hlen ⊢
      rw [List.reverse_cons, List.append_assoc]
      have hret : zRt y1 = none := zinit_ret hcal hmb.1.2
      have hcb : va_CN R s args (zOwS (zow y)) i (zNm y1) "SyntaxRules" (zB y1) (zLM y1) none (zwsl y1) (zrm y1 (nx h1 - nx h) (sc h1 - sc h)) (nx h1 - nx h) (sc h1 - sc h) (zNp y1) := by
        rw [← hret]
        exact va_cnB (zNp y1) hts (zgood hcal) rfl rfl rfl (C.2.2.2.2.2.2.2.1.1 _ hmb.2) hini m2 hRm
      refine zafter (va_runIN (As := As.map (zrv b base)) (n := zNp y1) hS hMet ⟨hcb, hmb.1.2, hts _ (hmw _ List.mem_cons_self)⟩ ⟨zPc_blind, hpre⟩ rfl (by rw [List.length_cons] at hlen; omega) hsizes rfl (lv_room hc8) hd hroom) cont
  · simp only [Bool.and_eq_true] at last
    obtain ⟨-, l1⟩ := last
    have l1 := Nat.eq_of_beq_eq_true l1
    refine zafter (va_runS (As := ws.reverse.map (zrv b base)) (n := zNp y1) hS hMet ⟨callB_of (zNp y1) hts (zgood hcal) rfl rfl rfl hini (hts _ (hmw _ List.mem_cons_self)) m2 hRm, hts _ (hmw _ (List.mem_cons_of_mem _ List.mem_cons_self))⟩ ⟨zPc_blind, hpre⟩ rfl (by rw [hlen, l1]) hsizes rfl (lv_room hc8) hd hroom) cont
  · simp only [Bool.and_eq_true] at last
    obtain ⟨-, l1⟩ := last
    have l1 := Nat.eq_of_beq_eq_true l1
    simp only [zMLb, Bool.and_eq_true, decide_eq_true_eq] at hmb
    refine zafter (va_runSN (As := ws.reverse.map (zrv b base)) (n := zNp y1) hS hMet ⟨va_cnB (host := "SyntaxRules") (zNp y1) hts (zgood hcal) rfl rfl rfl (C.2.2.2.2.2.2.2.1.1 _ hmb.2) hini m2 hRm, hts _ (hmw _ List.mem_cons_self), trivial⟩ ⟨zPc_blind, hpre⟩ rfl (by rw [hlen, l1]) hsizes rfl (lv_room hc8) hd hroom) cont

theorem zVn_le (hck : ∀ y ∈ zcal, ∀ e1 ∈ zPR y, zchk y e1 = true) {cd : List zE} {bad : Nat} (hY : ∀ e1 ∈ cd, ¬ e1.1 = bad → zchk y e1 = true) {K : Nat → List zV → List zV → zH → Prop} : ∀ (n pc : Nat) (ls st : List zV) (h : zH), zVn cd bad K n pc ls st h → ∃ pc1 ls1 st1 h1, K pc1 ls1 st1 h1 ∧ zle h h1 := by
  intro n
  induction n with
  | zero => intro pc ls st h k; exact ⟨pc, ls, st, h, k, zle.rf⟩
  | succ n ih =>
    intro pc ls st h k
    rcases k with k | ⟨hb, len, E, ops, hf, k⟩
    · exact ⟨pc, ls, st, h, k, zle.rf⟩
    · obtain ⟨hd, hs⟩ := zchk_spec (hY _ (zfind_mem hf) hb)
      unfold zwp at k
      rw [zg_iff] at k
      obtain ⟨hg, k⟩ := k
      revert k
      rcases h2 : (zstp E ops pc len ls st h).2 with _ | ⟨wf, brs, d, ls1, st1, h1⟩ | q1 | ⟨y1, k1, as1, rest, pc1⟩
      · exact fun k => k.elim
      · intro k
        have k : zbr brs d (fun pc1 => zVn cd bad K n pc1 ls1 st1 h1) := by
          cases wf with
          | true => exact k h1 rfl
          | false => exact k
        obtain ⟨a1, a2, a3, a4, a5, a6⟩ := ih _ _ _ _ (zbr_iff.mp k)
        exact ⟨a1, a2, a3, a4, a5, (zstp_zle hs hg h2).tr a6⟩
      · exact fun k => k.elim
      · intro k
        obtain ⟨n1, q, hc, k⟩ := zcall_sub k
        obtain ⟨es, gs, e2, e3, e4, e5, e6, e7, e8⟩ := zcall_shape hs hg h2
        rcases e8 with e8 | ⟨i, kd, e8, e9⟩
        · rw [e8, zrun_9990] at hc; cases hc
        · subst e2
          obtain ⟨a1, a2, a3, a4, a5, a6⟩ := ih _ _ _ _ k
          exact ⟨a1, a2, a3, a4, a5, (zrun_zle hck n1 _ _ _ _ _ _ _ (hck _ (zcs_cal e8 e9)) hc).tr a6⟩
set_option maxHeartbeats 4000000 in
theorem zVsim (hck : ∀ y ∈ zcal, ∀ e1 ∈ zPR y, zchk y e1 = true) {cd : List zE} {bad : Nat} (hY : ∀ e1 ∈ cd, ¬ e1.1 = bad → zchk y e1 = true) {K : Nat → List zV → List zV → zH → Prop} (C : zctx y p R s m args meth c) : ∀ (n pc : Nat) (ls st : List zV) (h : zH) (H : Heap) (locs : List Loc) (lsr : Array Slot) (cells slots : Nat), zVn cd bad K n pc ls st h → zfrm b base D s y ls st h H locs lsr → ln h 1 < 2 ^ 31 → cells ≤ R.cells ∧ slots ≤ R.slots →
    (∀ pc1 ls1 st1 h1, K pc1 ls1 st1 h1 → cells + (nx h1 - nx h) ≤ R.cells ∧ slots + (sc h1 - sc h) ≤ R.slots) →
    (∀ pc1 ls1 st1 h1 H1 locs1 lsr1, K pc1 ls1 st1 h1 → zle h h1 → zfrm b base D s y ls1 st1 h1 H1 locs1 lsr1 → W p l e R s m args below meth c H1 locs1 (cells + (nx h1 - nx h)) (slots + (sc h1 - sc h)) Q (F0 m pc1 lsr1 (st1.map (zrv b base)))) → W p l e R s m args below meth c H locs cells slots Q (F0 m pc lsr (st.map (zrv b base))) := by
  intro n
  induction n with
  | zero =>
    intro pc ls st h H locs lsr cells slots k F hln hcs hB hE
    have q := hE pc ls st h H locs lsr k zle.rf F
    rw [Nat.sub_self, Nat.sub_self] at q
    exact q
  | succ n ih =>
    intro pc ls st h H locs lsr cells slots k F hln hcs hB hE
    have h2n := F.1.1
    rcases k with k | ⟨hb, len, E, ops, hf, k⟩
    · have q := hE pc ls st h H locs lsr k zle.rf F
      rw [Nat.sub_self, Nat.sub_self] at q
      exact q
    · obtain ⟨hd, hs⟩ := zchk_spec (hY _ (zfind_mem hf) hb)
      unfold zwp at k
      rw [zg_iff] at k
      obtain ⟨hg, k⟩ := k
      have next : ∀ h1 : zH, zle h h1 → (∃ pc2 ls2 st2 h2, K pc2 ls2 st2 h2 ∧ zle h1 h2) → (cells + (nx h1 - nx h) ≤ R.cells ∧ slots + (sc h1 - sc h) ≤ R.slots) ∧ (∀ pc2 ls2 st2 h2, K pc2 ls2 st2 h2 → cells + (nx h1 - nx h) + (nx h2 - nx h1) ≤ R.cells ∧ slots + (sc h1 - sc h) + (sc h2 - sc h1) ≤ R.slots) ∧
          (∀ pc2 ls2 st2 h2 H2 locs2 lsr2, K pc2 ls2 st2 h2 → zle h1 h2 → zfrm b base D s y ls2 st2 h2 H2 locs2 lsr2 → W p l e R s m args below meth c H2 locs2 (cells + (nx h1 - nx h) + (nx h2 - nx h1)) (slots + (sc h1 - sc h) + (sc h2 - sc h1)) Q (F0 m pc2 lsr2 (st2.map (zrv b base)))) := by
        intro h1 hle1 ⟨pc2, ls2, st2, h3, k3, hle3⟩
        have a1 := hle1.1
        have a2 := hle1.2.1
        have a3 := hle3.1
        have a4 := hle3.2.1
        have b3 := hB _ _ _ _ k3
        have r1 : cells + (nx h1 - nx h) ≤ R.cells ∧ slots + (sc h1 - sc h) ≤ R.slots := ⟨by omega, by omega⟩
        refine ⟨r1, fun pc4 ls4 st4 h4 k4 => ?_, fun pc4 ls4 st4 h4 H4 locs4 lsr4 k4 hle4 F4 => ?_⟩
        · have b4 := hB _ _ _ _ k4
          exact ⟨by omega, by omega⟩
        · have c1 := hle4.1
          have c2 := hle4.2.1
          have e1 : cells + (nx h1 - nx h) + (nx h4 - nx h1) = cells + (nx h4 - nx h) := by omega
          have e2 : slots + (sc h1 - sc h) + (sc h4 - sc h1) = slots + (sc h4 - sc h) := by omega
          rw [e1, e2]
          exact hE pc4 ls4 st4 h4 H4 locs4 lsr4 k4 (hle1.tr hle4) F4
      revert k
      rcases h2 : (zstp E ops pc len ls st h).2 with _ | ⟨wf, brs, d, ls1, st1, h1⟩ | q1 | ⟨y1, k1, as1, rest, pc1⟩
      · exact fun k => k.elim
      · intro k
        have k : zbr brs d (fun pc1 => zVn cd bad K n pc1 ls1 st1 h1) := by
          cases wf with
          | true => exact k h1 rfl
          | false => exact k
        have k := zbr_iff.mp k
        have hle1 := zstp_zle hs hg h2
        obtain ⟨n1, n2, n3⟩ := next h1 hle1 (zVn_le hck hY n _ _ _ _ k)
        exact zJ C F hd hs h2 hg n1 hcs hln (fun H1 locs1 lsr1 F1 => ih _ _ _ _ H1 locs1 lsr1 _ _ k F1 (by rw [(hle1.2.2 1 (by omega)).1]; exact hln) n1 n2 n3)
      · exact fun k => k.elim
      · intro k
        obtain ⟨n1, q, hc, k⟩ := zcall_sub k
        obtain ⟨r1, h1⟩ := q
        have hle1 : zle h h1 := by
          obtain ⟨es, gs, e2, e3, e4, e5, e6, e7, e8⟩ := zcall_shape hs hg h2
          rcases e8 with e8 | ⟨i, kd, e8, e9⟩
          · rw [e8, zrun_9990] at hc; cases hc
          · subst e2
            exact zrun_zle hck n1 _ _ _ _ _ _ _ (hck _ (zcs_cal e8 e9)) hc
        obtain ⟨m1, m2, m3⟩ := next h1 hle1 (zVn_le hck hY n _ _ _ _ k)
        exact zcall1 hck C F hln hd hs hg h2 hc m1 (fun H1 locs1 F1 => ih _ _ _ _ H1 locs1 lsr _ _ k F1 (by rw [(hle1.2.2 1 (by omega)).1]; exact hln) m1 m2 m3)
end ZS
