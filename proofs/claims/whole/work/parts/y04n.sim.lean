/-! THE SIMULATION. -/
section ZN
variable {p : Program} {l : Launch} {e : Env} {R : Room} {s : State} {m : MethodId} {args : Array Value} {below : List Frame} {meth : Method} {c : Code} {H : Heap} {locs : List Loc} {cells slots : Nat} {Q : State → Prop}
variable {b base : Nat} {D : va_G} {y pc : Nat} {ls st st1 ls1 r : List zV} {h h1 : zH} {lsr lsr1 : Array Slot} {v v1 v2 v3 v4 : zV}
def zend (y : Nat) (hf : zH) (E1 : Instr) (r0 : Option zV) : Prop := (∀ v, r0 = some v → zok hf v ∧ zun v = false) ∧
  ((E1 = .return_ ∧ r0 = none ∧ zRt y = none) ∨ (E1 = .ireturn ∧ ∃ x, r0 = some (.inl x) ∧ (zRt y = some .int ∨ (zRt y = some .boolean ∧ (x = 0 ∨ x = 1)))) ∨ (E1 = .areturn ∧ ∃ q ft, r0 = some (.inr (.inl q)) ∧ zRt y = some ft ∧ zrefb ft = true))
theorem zes_end {E : Instr} {len : Nat} {ops : List Nat} {r0 : Option zV} (F : zfrm b base D s y ls st h H locs lsr) (hs : zsta y pc E len ops = true) (hg : zg (zstp E ops pc len ls st h).1 True) (he : zes E ops st r0) : len = 1 ∧ zend y h E r0 ∧ st.map (zrv b base) = (r0.map (zrv b base)).toList := by
  rcases he with ⟨rfl, rfl, rfl⟩ | ⟨rfl, x, rfl, rfl⟩ | ⟨rfl, x, t, rfl, rfl⟩
  · simp only [zsta, Bool.and_eq_true, decide_eq_true_eq] at hs
    exact ⟨Nat.eq_of_beq_eq_true hs.1, ⟨(fun v hv => by cases hv), Or.inl ⟨rfl, rfl, hs.2⟩⟩, rfl⟩
  · simp only [zsta, Bool.and_eq_true, Bool.or_eq_true, decide_eq_true_eq] at hs
    refine ⟨Nat.eq_of_beq_eq_true hs.1, ⟨fun v hv => by cases hv; exact F.top, Or.inr (Or.inl ⟨rfl, x, rfl, ?_⟩)⟩, rfl⟩
    rcases hs.2 with ⟨z1, z2⟩ | ⟨z1, z2⟩
    · exact Or.inl z2
    · refine Or.inr ⟨z2, ?_⟩
      subst z1
      dsimp only [zstp] at hg
      exact hg.1
  · simp only [zsta, Bool.and_eq_true] at hs
    obtain ⟨hl, hs⟩ := hs
    split at hs
    · rename_i ft hft
      rw [Bool.and_eq_true] at hs
      refine ⟨Nat.eq_of_beq_eq_true hl, ⟨fun v hv => ?_, Or.inr (Or.inr ⟨rfl, (x, ops.getD 0 0), ft, rfl, hft, hs.1⟩)⟩, rfl⟩
      cases hv
      refine ⟨?_, rfl⟩
      dsimp only [zstp] at hg
      show ops.getD 0 0 = 0 ∨ _
      by_cases h0 : ops.getD 0 0 = 0
      · exact Or.inl h0
      · refine Or.inr ⟨zpermb_ok hs.2, ?_⟩
        show zty (ops.getD 0 0) x h
        rw [zbeqF h0, Bool.or_false] at hg
        revert hg
        cases hb : Nat.beq t (ops.getD 0 0) with
        | true =>
          intro _
          have et := Nat.eq_of_beq_eq_true hb
          have hv : zok h (.inr (.inl (x, t))) := F.top.1
          rcases hv with z | ⟨-, z⟩
          · have z : t = 0 := z
            omega
          · have z : zty t x h := z
            rw [et] at z
            exact z
        | false => exact fun z => z.1
    · cases hs
def zSim (l : Launch) (b base : Nat) (D : va_G) (n : Nat) : Prop := ∀ (y pc : Nat) (ls st : List zV) (h : zH) (r0 : Option zV) (hf : zH), (∀ e1 ∈ zPR y, zchk y e1 = true) → zrun zPR zLM n y pc ls st h = some (r0, hf) →
  ∀ (p : Program) (e : Env) (R : Room) (s : State) (m : MethodId) (args : Array Value) (below : List Frame) (meth : Method) (c : Code) (H : Heap) (locs : List Loc) (lsr : Array Slot) (h0 : zH) (Q : State → Prop),
  zctx y p R s m args meth c → zfrm b base D s y ls st h H locs lsr → ln h 1 < 2 ^ 31 → zle h0 h → nx hf - nx h0 ≤ R.cells → sc hf - sc h0 ≤ R.slots →
  (∀ (pc1 : Nat) (H1 : Heap) (locs1 : List Loc) (lsr1 : Array Slot) (E1 : Instr), zRel b base D s hf H1 → (∀ q ∈ locs1, base ≤ q.base) → decode (zB y) pc1 = .ok (E1, 1) → zend y hf E1 r0 → W p l e R s m args below meth c H1 locs1 (nx hf - nx h0) (sc hf - sc h0) Q (F0 m pc1 lsr1 (r0.map (zrv b base)).toList)) →
  W p l e R s m args below meth c H locs (nx h - nx h0) (sc h - sc h0) Q (F0 m pc lsr (st.map (zrv b base)))
theorem zMb_at {y : Nat} (hy : y ∈ zcal) : (zNm y).cls = zOwS (zow y) ∧ ((zNm y).cls ≠ "java/lang/invoke/MethodHandle" ∧ (zNm y).cls ≠ "java/lang/invoke/VarHandle" ∧ (parseMethodDescriptor (zNm y).desc).map (fun d => d.parameters.length) = some (zNp y)) ∧ plainName (zNm y).cls = true := by
  have h1 := List.all_eq_true.mp zMb_ok y hy
  unfold zMb at h1
  simp only [Bool.and_eq_true, decide_eq_true_eq] at h1
  exact ⟨h1.1.1.1.1, ⟨h1.1.1.1.2, h1.1.1.2, h1.1.2⟩, h1.2⟩
/-- a run of a method from its entry is its contract -/
theorem zSim.met {n y1 : Nat} {as1 : List zV} {r0 : Option zV} {hf : zH} (hck : ∀ y ∈ zcal, ∀ e1 ∈ zPR y, zchk y e1 = true) (S : zSim l b base D n) (hy : y1 ∈ zcal) (hrun : zrun zPR zLM n y1 0 (zpad (zLM y1) (zents as1)) [] h = some (r0, hf)) (hln : ln h 1 < 2 ^ 31)
    (hok : ∀ v ∈ as1, zok h v ∧ zun v = false) (hsz : (zents as1).length ≤ zLM y1) (hnl : znl y1 = true → ∀ v ∈ as1, zlong v = false) : zMet l b base D y1 as1 h r0 hf := by
  obtain ⟨m1, m2, m3⟩ := zMb_at hy
  refine Met.ofW (cc := zB y1) (maxL := zLM y1) (ret := zRt y1) m3 rfl ?_
  intro p e s m args below meth c s₁ B hml hv
  obtain ⟨rfl, hR, hN⟩ := hv
  have hts := atoms_spec (ws := zwsl y1) B.pre
  have hown : s.vm.findClass (zNm y1).cls = some m.cls := findClass_of_methodNamed B.named
  rw [m1] at hown
  have hin : meth.name = (zNm y1).name := (name_of_methodNamed B.named B.method).1
  have C : zctx y1 p (headSpec (zwsl y1) (zrm y1 (nx hf - nx h) (sc hf - sc h))).room s m ((as1.map (zrv b base)).toArray) meth c := ⟨B.exec, B.bytes, B.returns, hml, hown, fun w hw => hts w (List.mem_cons_of_mem _ hw), B.notSynchronized, hN, fun z => hin.trans z, Nat.le_refl _, Nat.le_refl _⟩
  have F := zentry hR hok hsz hnl
  rw [lg_entry_eq]
  have k := S y1 0 _ [] h r0 hf (hck y1 hy) hrun p e (headSpec (zwsl y1) (zrm y1 (nx hf - nx h) (sc hf - sc h))).room s m ((as1.map (zrv b base)).toArray) below meth c s.heap [] _ h (MQ below (zQc b base D r0 hf) ((as1.map (zrv b base)).toArray) s (nx hf - nx h) (sc hf - sc h) (fun q => base ≤ q)) C F hln zle.rf (Nat.le_refl _) (Nat.le_refl _) ?_
  · rw [Nat.sub_self, Nat.sub_self] at k
    exact k
  · intro pc1 H1 locs1 lsr1 E1 hR1 hl1 hd1 he1
    have hq : ∀ t : State, t.heap = H1 → s.WarmedH t.vm → zQc b base D r0 hf ((as1.map (zrv b base)).toArray) s (.returned (r0.map (zrv b base))) t := fun t ht hW => ⟨rfl, by rw [ht]; exact hR1.moved hW.alike, he1.1⟩
    have hlk : meth.locks = false := B.notSynchronized
    rcases he1.2 with ⟨rfl, rfl, z⟩ | ⟨rfl, x, rfl, z⟩ | ⟨rfl, q, ft, rfl, z1, z2⟩
    · exact W.vret B.exec B.bytes (by rw [B.returns, z]) hq hl1 hd1 hlk
    · rcases z with z | ⟨z, hx⟩
      · exact W.iret B.exec B.bytes (by rw [B.returns, z]) hq hl1 hd1 hlk
      · exact W.zret B.exec B.bytes (by rw [B.returns, z]) (znar_z hx).1 hq hl1 hd1 hlk
    · refine W.aret B.exec B.bytes (by rw [B.returns, z1]) ?_ ?_ hq hl1 hd1 hlk
      · cases ft <;> first | (cases z2; done) | (exact Or.inl ⟨_, rfl⟩) | (exact Or.inr ⟨_, rfl⟩)
      · show va_rf (zro b base q.1) = .null ∨ ∃ a, va_rf (zro b base q.1) = .ref a
        cases zro b base q.1 with
        | none => exact Or.inl rfl
        | some a => exact Or.inr ⟨a, rfl⟩
/-- a call's words -/
theorem zgood {y1 : Nat} (hy : y1 ∈ zcal) : GoodIn zwd (zwsl y1) := by
  intro w hw
  have hc : Cond.code (zNm y1) (zB y1) (zLM y1) (zRt y1) ∈ zwd := zMy_w y1 hy _ List.mem_cons_self
  rcases List.mem_cons.mp hw with rfl | hw
  · exact ⟨hc, zwd_good _ hc⟩
  · exact ⟨hw, zwd_good _ hw⟩
theorem zOwS_cr {k : Nat} (hk : k < 12) : zOwS k = (zcr k).1 := by
  match k, hk with
  | 0, _ => rfl
  | 1, _ => rfl
  | 2, _ => rfl
  | 3, _ => rfl
  | 4, _ => rfl
  | 5, _ => rfl
  | 6, _ => rfl
  | 7, _ => rfl
  | 8, _ => rfl
  | 9, _ => rfl
  | 10, _ => rfl
  | 11, _ => rfl
  | k + 12, hk => exact absurd hk (by omega)
set_option maxRecDepth 100000 in
theorem zinit_b : zcal.all (fun y => !(decide ((zNm y).name = "<init>")) || decide (zRt y = none)) = true := by decide +kernel
theorem zinit_ret {y1 : Nat} (hy : y1 ∈ zcal) (hn : (zNm y1).name = "<init>") : zRt y1 = none := by
  have := List.all_eq_true.mp zinit_b y1 hy
  simp only [Bool.or_eq_true, Bool.not_eq_true', decide_eq_false_iff_not, decide_eq_true_eq] at this
  exact this.resolve_left (fun z => z hn)
theorem zlast {es : List Nat} {ws As : List zV} {a1 : Nat} {rc : zV} (hl : es.getLast? = some a1) (hw : ws.reverse = rc :: As) (hn : ws.length = es.length) (hp : ∀ (j e1 : Nat) (w : zV), es[j]? = some e1 → ws[j]? = some w → zcoR e1 w) : zcoR a1 rc := by
  have e1 : ws = As.reverse ++ [rc] := by
    have := congrArg List.reverse hw
    rw [List.reverse_reverse, List.reverse_cons] at this
    exact this
  have hn2 : es.length = As.length + 1 := by rw [← hn, e1]; simp
  refine hp As.length a1 rc ?_ ?_
  · rw [List.getLast?_eq_getElem?, hn2] at hl
    exact hl
  · rw [e1, List.getElem?_append_right (by simp)]
    simp
set_option maxHeartbeats 4000000 in
/-- a run of the small machine is a run of the machine -/
theorem zsim (hck : ∀ y ∈ zcal, ∀ e1 ∈ zPR y, zchk y e1 = true) : ∀ n, zSim l b base D n := by
  intro n
  induction n with
  | zero => intro y pc ls st h r0 hf hY hrun; cases hrun
  | succ n ih =>
    intro y pc ls st h r0 hf hY hrun p e R s m args below meth c H locs lsr h0 Q C F hln hle hc1 hc2 hE
    rw [zrun_succ] at hrun
    cases hfd : zfind pc (zPR y) with
    | none => rw [hfd] at hrun; cases hrun
    | some w =>
      obtain ⟨len, E, ops⟩ := w
      rw [hfd] at hrun
      dsimp only at hrun
      have h2n := F.1.1
      by_cases hg : zg (zstp E ops pc len ls st h).1 True
      · rw [if_pos hg] at hrun
        obtain ⟨hd, hs⟩ := zchk_spec (hY _ (zfind_mem hfd))
        rcases h2 : (zstp E ops pc len ls st h).2 with _ | ⟨wf, brs, d, ls1, st1, h1⟩ | q1 | ⟨y1, k1, as1, rest, pc1⟩
        · rw [h2] at hrun; cases hrun
        · rw [h2] at hrun
          dsimp only at hrun
          have hle1 := zstp_zle hs hg h2
          have hle2 := zrun_zle hck n y _ _ _ _ _ _ hY hrun
          have a1 := hle.1
          have a2 := hle1.1
          have a3 := hle2.1
          have b1 := hle.2.1
          have b2 := hle1.2.1
          have b3 := hle2.2.1
          refine zJ C F hd hs h2 hg ⟨by omega, by omega⟩ ⟨by omega, by omega⟩ hln (fun H1 locs1 lsr1 F1 => ?_)
          have k := ih y _ ls1 st1 h1 r0 hf hY hrun p e R s m args below meth c H1 locs1 lsr1 h0 Q C F1 (by rw [(hle1.2.2 1 (by omega)).1]; exact hln) (hle.tr hle1) hc1 hc2 hE
          have e1 : nx h - nx h0 + (nx h1 - nx h) = nx h1 - nx h0 := by omega
          have e2 : sc h - sc h0 + (sc h1 - sc h) = sc h1 - sc h0 := by omega
          rw [e1, e2]
          exact k
        · rw [h2] at hrun
          obtain ⟨r2, h3⟩ := q1
          cases hrun
          obtain ⟨rfl, he⟩ := zret_shape h2
          obtain ⟨l1, e1, e2⟩ := zes_end F hs hg he
          subst l1
          rw [e2]
          exact hE pc H locs lsr E F.1 F.2.1 hd e1
        · rw [h2] at hrun
          dsimp only at hrun
          obtain ⟨es, gs, e2, e3, e4, e5, e6, e7, e8⟩ := zcall_shape hs hg h2
          cases hc : zrun zPR zLM n y1 0 (zpad (zLM y1) (zents as1)) [] h with
          | none => rw [hc] at hrun; cases hrun
          | some q =>
            obtain ⟨r1, h1⟩ := q
            rw [hc] at hrun
            dsimp only at hrun
            rcases e8 with e8 | ⟨i, kd, e8, e9⟩
            · rw [e8, zrun_9990] at hc; cases hc
            · subst e2; subst e6; subst e7
              have hcal := zcs_cal e8 e9
              obtain ⟨vs, ws, p1, p2, p3, p4, p5, p6, p7⟩ := zpop_ok (b := b) (base := base) _ _ _ _ _ _ _ e3 e4
              rw [List.append_nil] at p2
              subst p2
              subst p1
              have hst := F.2.2.2.2.2.1
              have hc8 := zrest_cat (b := b) (base := base) hst e5
              have hle1 := zrun_zle hck n y1 _ _ _ _ _ _ (hck y1 hcal) hc
              have hle2 := zrun_zle hck n y _ _ _ _ _ _ hY hrun
              have a1 := hle.1
              have a2 := hle1.1
              have a3 := hle2.1
              have b1 := hle.2.1
              have b2 := hle1.2.1
              have b3 := hle2.2.1
              have hkd : zesb es = true ∧ (znl y1 == !(es.elem 1)) = true ∧ zsz es ≤ zLM y1 ∧ zFr y1 + 1 ≤ zFr y ∧ 8 + (zLM y1 + 11) + zLo y1 ≤ zLo y := by
                have z := e9
                unfold zinb at z
                rw [Bool.and_eq_true] at z
                have z := z.2
                rcases e8 with ⟨-, rfl⟩ | ⟨-, rfl | rfl⟩ | ⟨-, rfl | rfl⟩ <;> simp only [Bool.and_eq_true] at z <;> exact ⟨z.1.1.1.1.1, z.1.1.1.1.2, Nat.le_of_ble_eq_true z.1.1.1.2, Nat.le_of_ble_eq_true z.1.1.2, Nat.le_of_ble_eq_true z.1.2⟩
              obtain ⟨k1, k2, k3, k4, k5⟩ := hkd
              have hes : ∀ e1 ∈ es, e1 ≤ 1 ∨ zperm e1 := by
                intro e1 he1
                have := List.all_eq_true.mp k1 e1 he1
                rw [Bool.or_eq_true] at this
                exact this.imp Nat.le_of_ble_eq_true zpermb_ok
              have hokw := p5 (fun v hv => hst v (List.mem_append_left _ hv)) hes
              have hok : ∀ v ∈ ws.reverse, zok h v ∧ zun v = false := fun v hv => hokw v (List.mem_reverse.mp hv)
              have hsz : (zents ws.reverse).length ≤ zLM y1 := by rw [zents_rev, zsz_eq es ws p3 p7]; exact k3
              have hnl : znl y1 = true → ∀ v ∈ ws.reverse, zlong v = false := by
                intro z v hv
                rw [z] at k2
                have hne : ¬ (1 ∈ es) := by simpa using k2
                obtain ⟨j, hj⟩ := List.getElem?_of_mem (List.mem_reverse.mp hv)
                have hjl := (List.getElem?_eq_some_iff.mp hj).1
                obtain ⟨e1, he1⟩ : ∃ e1, es[j]? = some e1 := ⟨_, List.getElem?_eq_getElem (by omega)⟩
                refine (p7 j e1 v he1 hj).1 (fun w => hne ?_)
                rw [← w]
                exact List.mem_of_getElem? he1
              have hMet := ih.met hck hcal hc hln hok hsz hnl
              obtain ⟨m1, m2, m3⟩ := zMb_at hcal
              have hts := C.2.2.2.2.2.1
              have hini : (Cond.initialized (zNm y1).cls).before args s = true := hts _ (zMy_w y1 hcal _ (List.mem_cons_of_mem _ List.mem_cons_self))
              have hS : CallFix p m c (zB y) (zLM y) s args zwd (zOwS (zow y)) := ⟨C.1, C.2.1, C.2.2.2.1, C.2.2.2.2.1, hts⟩
              have hRm : (zrm y1 (nx h1 - nx h) (sc h1 - sc h)).frames + 1 ≤ R.frames ∧ 8 + (zLM y1 + 11) + (zrm y1 (nx h1 - nx h) (sc h1 - sc h)).locals ≤ R.locals := ⟨Nat.le_trans k4 C.2.2.2.2.2.2.2.2.2.1, Nat.le_trans k5 C.2.2.2.2.2.2.2.2.2.2⟩
              have hroom : nx h - nx h0 + (nx h1 - nx h) ≤ R.cells ∧ sc h - sc h0 + (sc h1 - sc h) ≤ R.slots := ⟨by omega, by omega⟩
              have hpre : ∀ U : State, U.heap = H → s.WarmedH U.vm → zPc b base D ws.reverse h (ws.reverse.map (zrv b base)).toArray U := fun U hU hW => ⟨rfl, by rw [hU]; exact F.1.moved hW.alike, C.2.2.2.2.2.2.2.1.warm hW⟩
              have cont : ∀ (H1 : Heap) (locs1 : List Loc), zRel b base D s h1 H1 → (∀ v, r1 = some v → zok h1 v ∧ zun v = false) → ((∀ q ∈ locs, base ≤ q.base) → ∀ q ∈ locs1, base ≤ q.base) → W p l e R s m args below meth c H1 locs1 (nx h - nx h0 + (nx h1 - nx h)) (sc h - sc h0 + (sc h1 - sc h)) Q (F0 m (pc + 3) lsr ((r1.map (zrv b base)).toList ++ rest.map (zrv b base))) := by
                intro H1 locs1 r3 r4 r5
                have F1 : zfrm b base D s y ls (r1.toList ++ rest) h1 H1 locs1 lsr := ⟨r3, r5 F.2.1, F.2.2.1, F.2.2.2.1, fun v hv => zok_mono hle1 (F.2.2.2.2.1 v hv), fun v hv => by
                  rcases List.mem_append.mp hv with w | w
                  · exact r4 v (by cases r1 with
                      | none => exact absurd w List.not_mem_nil
                      | some u => rw [List.mem_singleton.mp w])
                  · exact ⟨zok_mono hle1 (hst v (List.mem_append_right _ w)).1, (hst v (List.mem_append_right _ w)).2⟩, F.2.2.2.2.2.2⟩
                have k := ih y (pc + 3) ls (r1.toList ++ rest) h1 r0 hf hY hrun p e R s m args below meth c H1 locs1 lsr h0 Q C F1 (by rw [(hle1.2.2 1 (by omega)).1]; exact hln) (hle.tr hle1) hc1 hc2 hE
                have e1 : nx h - nx h0 + (nx h1 - nx h) = nx h1 - nx h0 := by omega
                have e2 : sc h - sc h0 + (sc h1 - sc h) = sc h1 - sc h0 := by omega
                rw [e1, e2]
                rw [List.map_append] at k
                have e3 : (r1.map (zrv b base)).toList = r1.toList.map (zrv b base) := by cases r1 <;> rfl
                rw [e3]
                exact k
              have hstk : (vs ++ rest).map (zrv b base) = (ws.reverse.map (zrv b base)).reverse ++ rest.map (zrv b base) := by rw [List.map_append, ← p4, List.map_reverse, List.reverse_reverse]
              have hsizes : lsr.size = zLM y := F.2.2.2.1.1
              have hlen : (ws.reverse.map (zrv b base)).length = es.length := by rw [List.length_map, List.length_reverse, p3]
              have hm := zinb_el e9
              have hmw := zML_w _ _ hm
              have hmb := zML_b hm
              have last := e9
              unfold zinb at last
              rw [Bool.and_eq_true] at last
              have last := last.2
              rw [hstk]
              rcases e8 with ⟨rfl, rfl⟩ | ⟨rfl, rfl | rfl⟩ | ⟨rfl, rfl | rfl⟩
              · simp only [Bool.and_eq_true, decide_eq_true_eq] at last
                obtain ⟨-, ⟨l1, l2⟩, l3⟩ := last
                have l1 := Nat.eq_of_beq_eq_true l1
                have l3 : zow y1 < 12 := by rw [Nat.blt_eq] at l3; exact l3
                cases hwr : ws.reverse with
                | nil =>
                  exfalso
                  have := congrArg List.length hwr
                  rw [List.length_reverse, p3, l1] at this
                  cases this
                | cons rc As =>
                  obtain ⟨x, hx⟩ := (zlast l2 hwr p3 p7).2.2.1 (by omega)
                  subst hx
                  rw [hwr] at hMet hpre hlen
                  have hv : zok h (.inr (.inl (x, 100 + zow y1))) := (hok _ (by rw [hwr]; exact List.mem_cons_self)).1
                  have hv := (hv.resolve_left (by show ¬ (100 + zow y1 = 0); omega)).2
                  obtain ⟨x1, x2, x3⟩ := zty_obj l3 hv
                  obtain ⟨cellB, g1, g2, g3, -⟩ := (show zobj (zow y1) x h from ⟨x1, x2, Or.inl x3⟩).ob l3 F.1
                  have hcl : s.vm.findClass (zNm y1).cls = some cellB.cls := by
                    rw [m1, g2]
                    have := (F.1.2.2.2.2.2.2.2.1 (zow y1) _ (zcr_at l3)).2.1
                    rw [zOwS_cr l3]
                    exact this
                  have ex : zrv b base (.inr (.inl (x, 100 + zow y1))) = .ref (zra b base x) := zref_nz x1
                  rw [List.map_cons, ex] at hpre hlen ⊢
                  rw [List.reverse_cons, List.append_assoc]
                  refine zafter (va_runV (C := (zNm y1).cls) (As := As.map (zrv b base)) (n := zNp y1) hS hMet ⟨callB_of (zNp y1) hts (zgood hcal) rfl rfl rfl hini (hts _ (hmw _ List.mem_cons_self)) m2 hRm, hts _ (hmw _ (List.mem_cons_of_mem _ List.mem_cons_self)), hts _ (hmw _ (List.mem_cons_of_mem _ (List.mem_cons_of_mem _ List.mem_cons_self)))⟩ ⟨zPc_blind, ⟨cellB, g1, by rw [g3]; rfl, hcl⟩, hpre⟩ rfl (by rw [List.length_cons] at hlen; omega) hsizes rfl (lv_room hc8) hd hroom) cont
              · simp only [Bool.and_eq_true, decide_eq_true_eq] at last
                obtain ⟨-, l1, l2⟩ := last
                have l1 := Nat.eq_of_beq_eq_true l1
                simp only [zMLb, Bool.and_eq_true, decide_eq_true_eq] at hmb
                cases hwr : ws.reverse with
                | nil =>
                  exfalso
                  have := congrArg List.length hwr
                  rw [List.length_reverse, p3, l1] at this
                  cases this
                | cons rc As =>
                  obtain ⟨x, hx, hx0⟩ := (zlast l2 hwr p3 p7).2.2.2 rfl
                  subst hx
                  rw [hwr] at hMet hpre hlen
                  have ex : zrv b base (.inr (.inl (x, 0))) = .ref (zra b base x) := by show va_rf (zro b base x) = _; rw [zro_some hx0]; rfl
                  rw [List.map_cons, ex] at hpre hlen ⊢
                  rw [List.reverse_cons, List.append_assoc]
                  have hret : zRt y1 = none := zinit_ret hcal hmb.2
                  have hcb : CallB R s args (zOwS (zow y)) i (zNm y1) (zB y1) (zLM y1) none (zwsl y1) (zrm y1 (nx h1 - nx h) (sc h1 - sc h)) (nx h1 - nx h) (sc h1 - sc h) (zNp y1) := by
                    rw [← hret]
                    exact callB_of (zNp y1) hts (zgood hcal) rfl rfl rfl hini (hts _ (hmw _ List.mem_cons_self)) m2 hRm
                  refine zafter (va_runI (As := As.map (zrv b base)) (n := zNp y1) hS hMet ⟨hcb, hmb.2, hts _ (hmw _ (List.mem_cons_of_mem _ List.mem_cons_self))⟩ ⟨zPc_blind, hpre⟩ rfl (by rw [List.length_cons] at hlen; omega) hsizes rfl (lv_room hc8) hd hroom) cont
              · simp only [Bool.and_eq_true, decide_eq_true_eq] at last
                obtain ⟨-, l1, l2⟩ := last
                have l1 := Nat.eq_of_beq_eq_true l1
                simp only [zMLb, Bool.and_eq_true, decide_eq_true_eq] at hmb
                cases hwr : ws.reverse with
                | nil =>
                  exfalso
                  have := congrArg List.length hwr
                  rw [List.length_reverse, p3, l1] at this
                  cases this
                | cons rc As =>
                  obtain ⟨x, hx, hx0⟩ := (zlast l2 hwr p3 p7).2.2.2 rfl
                  subst hx
                  rw [hwr] at hMet hpre hlen
                  have ex : zrv b base (.inr (.inl (x, 0))) = .ref (zra b base x) := by show va_rf (zro b base x) = _; rw [zro_some hx0]; rfl
                  rw [List.map_cons, ex] at hpre hlen ⊢
                  rw [List.reverse_cons, List.append_assoc]
                  have hret : zRt y1 = none := zinit_ret hcal hmb.1.2
                  have hcb : va_CN R s args (zOwS (zow y)) i (zNm y1) "SyntaxRules" (zB y1) (zLM y1) none (zwsl y1) (zrm y1 (nx h1 - nx h) (sc h1 - sc h)) (nx h1 - nx h) (sc h1 - sc h) (zNp y1) := by
                    rw [← hret]
                    exact va_cnB (zNp y1) hts (zgood hcal) rfl rfl rfl (C.2.2.2.2.2.2.2.1.1 _ hmb.2) hini m2 hRm
                  refine zafter (va_runIN (As := As.map (zrv b base)) (n := zNp y1) hS hMet ⟨hcb, hmb.1.2, hts _ (hmw _ List.mem_cons_self)⟩ ⟨zPc_blind, hpre⟩ rfl (by rw [List.length_cons] at hlen; omega) hsizes rfl (lv_room hc8) hd hroom) cont
              · simp only [Bool.and_eq_true] at last
                obtain ⟨-, l1⟩ := last
                have l1 := Nat.eq_of_beq_eq_true l1
                refine zafter (va_runS (As := ws.reverse.map (zrv b base)) (n := zNp y1) hS hMet ⟨callB_of (zNp y1) hts (zgood hcal) rfl rfl rfl hini (hts _ (hmw _ List.mem_cons_self)) m2 hRm, hts _ (hmw _ (List.mem_cons_of_mem _ List.mem_cons_self))⟩ ⟨zPc_blind, hpre⟩ rfl (by rw [hlen, l1]) hsizes rfl (lv_room hc8) hd hroom) cont
              · simp only [Bool.and_eq_true] at last
                obtain ⟨-, l1⟩ := last
                have l1 := Nat.eq_of_beq_eq_true l1
                simp only [zMLb, Bool.and_eq_true, decide_eq_true_eq] at hmb
                refine zafter (va_runSN (As := ws.reverse.map (zrv b base)) (n := zNp y1) hS hMet ⟨va_cnB (host := "SyntaxRules") (zNp y1) hts (zgood hcal) rfl rfl rfl (C.2.2.2.2.2.2.2.1.1 _ hmb.2) hini m2 hRm, hts _ (hmw _ List.mem_cons_self), trivial⟩ ⟨zPc_blind, hpre⟩ rfl (by rw [hlen, l1]) hsizes rfl (lv_room hc8) hd hroom) cont
      · rw [if_neg hg] at hrun; cases hrun
end ZN
