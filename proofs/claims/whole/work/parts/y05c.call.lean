/-! law.node: what it comes to, and its call. -/
def d261 : List zE := [(0, 1, .aload_n 3, []), (1, 1, .iconst 0, []), (2, 1, .aload_n 0, []), (3, 1, .iload_n 1, []), (4, 1, .iload_n 2, []), (5, 3, .invokevirtual 7, [6, 1, 0, 0, 100]), (8, 1, .i2l, []), (9, 1, .lastore, [43]), (10, 3, .goto 7, []), (17, 1, .iconst 0, []), (18, 1, .ireturn, [0])]
set_option maxRecDepth 1000000 in
theorem d261_b : d261.all (zchk 261) = true := by decide +kernel
theorem d261_ok : ∀ e1 ∈ d261, zchk 261 e1 = true := fun e1 he => List.all_eq_true.mp d261_b e1 he
def zVu (cd : List zE) (bad : Nat) (K : Nat → List zV → List zV → zH → Prop) (pc : Nat) (ls st : List zV) (h : zH) : Prop := ∃ n, zVn cd bad K n pc ls st h
section ZC
variable {cd : List zE} {bad : Nat} {K : Nat → List zV → List zV → zH → Prop}
theorem zVu_k {pc : Nat} {ls st : List zV} {h : zH} (k : K pc ls st h) : zVu cd bad K pc ls st h := ⟨0, k⟩
theorem zVu_step {pc len : Nat} {E : Instr} {ops : List Nat} {ls st : List zV} {h : zH} (h0 : ¬ pc = bad) (hf : zfind pc cd = some (len, E, ops)) (k : zwp zPR zLM (zstp E ops pc len ls st h) ls h (fun pc1 ls1 st1 h1 => zVu cd bad K pc1 ls1 st1 h1) (fun _ _ => False)) : zVu cd bad K pc ls st h := by
  unfold zwp at k
  rw [zg_iff] at k
  obtain ⟨hg, k⟩ := k
  suffices hh : ∃ n, zwp zPR zLM (zstp E ops pc len ls st h) ls h (fun pc1 ls1 st1 h1 => zVn cd bad K n pc1 ls1 st1 h1) (fun _ _ => False) by
    obtain ⟨n, a⟩ := hh
    exact ⟨n + 1, Or.inr ⟨h0, len, E, ops, hf, a⟩⟩
  revert k
  rcases hs : (zstp E ops pc len ls st h).2 with _ | ⟨wf, brs, d, ls1, st1, h1⟩ | q1 | ⟨y1, k1, args, rest, pc1⟩
  · exact fun k => k.elim
  · intro k
    have k : zbr brs d (fun pc1 => zVu cd bad K pc1 ls1 st1 h1) := by
      cases wf with
      | true => exact k h1 rfl
      | false => exact k
    obtain ⟨n, a⟩ := zbr_iff.mp k
    refine ⟨n, ?_⟩
    unfold zwp
    rw [zg_iff, hs]
    refine ⟨hg, ?_⟩
    cases wf with
    | true => exact fun h2 e2 => zbr_iff.mpr (by rw [e2]; exact a)
    | false => exact zbr_iff.mpr a
  · exact fun k => k.elim
  · intro k
    suffices hh : ∃ n, zcall zPR zLM y1 k1 args h (fun vs h1 => zVn cd bad K n pc1 ls (vs ++ rest) h1) by
      obtain ⟨n, a⟩ := hh
      refine ⟨n, ?_⟩
      unfold zwp
      rw [zg_iff, hs]
      exact ⟨hg, a⟩
    match k1, k with
    | 0, k => obtain ⟨n, q, a, b, m, c⟩ := k; exact ⟨m, n, q, a, b, c⟩
    | 1, k => obtain ⟨n, q, a, v, b, m, c⟩ := k; exact ⟨m, n, q, a, v, b, c⟩
    | k1 + 2, k => obtain ⟨n, q, a, v, b, m, c⟩ := k; exact ⟨m, n, q, a, v, b, c⟩
def zwpv (cd : List zE) (bad : Nat) (K : Nat → List zV → List zV → zH → Prop) (cuts : List Nat) : Nat → Nat → List zV → List zV → zH → Prop
  | 0, pc, ls, st, h => zVu cd bad K pc ls st h
  | n + 1, pc, ls, st, h => match zfind pc cd with
    | none => False
    | some (len, E, ops) => bif Nat.beq pc bad then False else zwp zPR zLM (zstp E ops pc len ls st h) ls h (fun pc1 ls1 st1 h1 => bif cuts.elem pc1 then zVu cd bad K pc1 ls1 st1 h1 else zwpv cd bad K cuts n pc1 ls1 st1 h1) (fun _ _ => False)
theorem zwpv_U (cuts : List Nat) : ∀ (n pc : Nat) (ls st : List zV) (h : zH), zwpv cd bad K cuts n pc ls st h → zVu cd bad K pc ls st h := by
  intro n
  induction n with
  | zero => intro pc ls st h k; exact k
  | succ n ih =>
    intro pc ls st h k
    unfold zwpv at k
    cases hf : zfind pc cd with
    | none => rw [hf] at k; exact k.elim
    | some w =>
      obtain ⟨len, E, ops⟩ := w
      rw [hf] at k
      dsimp only at k
      cases hb : Nat.beq pc bad with
      | true => rw [hb] at k; exact k.elim
      | false =>
        rw [hb] at k
        refine zVu_step (fun e => by rw [e, Nat.beq_refl] at hb; cases hb) hf (zwp_mono (fun a b c d q => ?_) k)
        revert q
        cases cuts.elem a with
        | true => exact id
        | false => exact ih _ _ _ _
theorem q261 (i q : Int) (h : zH) (K : Nat → List zV → List zV → zH → Prop) (k : zC1 6 [vR 2 100, vI i, vI q] h (fun v h1 => (0 ≤ (0 : Int)) ∧ ((0 : Int) < 1) ∧ (inR v) ∧ ((43 : Nat) = 43) ∧ ∀ h2 : zH, h2 = sI h1 170 0 v → zVu d261 99 K 18 [vR 2 100, vI i, vI q, vR 170 243, vU] [vI 0] h2)) : zVu d261 99 K 0 [vR 2 100, vI i, vI q, vR 170 243, vU] [] h :=
  zwpv_U [18] 60 0 _ _ _ k
theorem q261x (i q : Int) (h : zH) (K : Nat → List zV → List zV → zH → Prop) (k : zVu d261 5 K 5 [vR 2 100, vI i, vI q, vR 170 243, vU] [vI q, vI i, vR 2 100, vI 0, vR 170 243] h) : zVu d261 5 K 0 [vR 2 100, vI i, vI q, vR 170 243, vU] [] h :=
  zwpv_U [5] 60 0 _ _ _ k
end ZC
def zW261 : List Cond := Cond.codeWith (zNm 261) (zB 261) 5 (some .int) [(0, 10, 13, 13)] :: zwd
def zR261 : Room := { frames := 9, cells := 1, slots := 6, locals := 300 }
def zQ261 (b base : Nat) (D : va_G) (P : Int32 → zH → Prop) : Array Value → State → Outcome → State → Prop := fun _ _ o t => ∃ v hf, o = .returned (some (.int v)) ∧ zRel b base D t hf t.heap ∧ P v hf
section ZD
variable {p : Program} {l : Launch} {e : Env} {R : Room} {s : State} {m : MethodId} {args : Array Value} {below : List Frame} {meth : Method} {c : Code} {H : Heap} {locs : List Loc} {cells slots : Nat} {Q : State → Prop}
variable {b base : Nat} {D : va_G} {h h1 : zH} {lsr : Array Slot} {i q : Int}
abbrev za61 (i q : Int) : List zV := [vR 2 100, vI i, vI q, vR 170 243]
theorem za61_ok (hi : inR i) (hq : inR q) (t2 : zty 100 2 h) (t7 : zty 243 170 h) : ∀ v ∈ za61 i q, zok h v ∧ zun v = false := List.forall_mem_cons.mpr ⟨⟨Or.inr ⟨Or.inl (by decide), t2⟩, rfl⟩, List.forall_mem_cons.mpr ⟨⟨hi, rfl⟩, List.forall_mem_cons.mpr ⟨⟨hq, rfl⟩, List.forall_mem_cons.mpr ⟨⟨Or.inr ⟨Or.inr (by decide), t7⟩, rfl⟩, fun _ z => absurd z List.not_mem_nil⟩⟩⟩⟩
theorem za61_nl : ∀ v ∈ za61 i q, zlong v = false := List.forall_mem_cons.mpr ⟨rfl, List.forall_mem_cons.mpr ⟨rfl, List.forall_mem_cons.mpr ⟨rfl, List.forall_mem_cons.mpr ⟨rfl, fun _ z => absurd z List.not_mem_nil⟩⟩⟩⟩
set_option maxRecDepth 1000000 in
/-- it gives an answer -/
theorem z261v (hck : ∀ y ∈ zcal, ∀ e1 ∈ zPR y, zchk y e1 = true) {w : Int} (hi : inR i) (hq : inR q) (hw : inR w) (t2 : zty 100 2 h) (t7 : zty 243 170 h) (hln : ln h 1 < 2 ^ 31) (hv : zC1 6 [vR 2 100, vI i, vI q] h (fun v h1 => v = w ∧ h1 = h)) : vx_Met l (zNm 261) zW261 zR261 (zP6 b base D (za61 i q) h) (zQ261 b base D (fun v hf => v = 0 ∧ hf = sI h 170 0 w)) (fun _ _ _ => False) 1 6 (fun q => base ≤ q) := by
  refine vx_ofWH (cc := zB 261) (maxL := 5) (ret := some .int) (hh := [(0, 10, 13, 13)]) (by decide +kernel) rfl ?_
  intro p e s m args below meth c s₁ B hml hv1
  obtain ⟨⟨rfl, hR, hN⟩, hX⟩ := hv1
  have hts := atoms_spec (ws := zW261) B.pre
  have hown : s.vm.findClass "SyntaxRulesLaw" = some m.cls := findClass_of_methodNamed B.named
  have hz : ∀ w ∈ zwd, w.before (((za61 i q).map (zrv b base)).toArray) s = true := fun w hw => hts w (List.mem_cons_of_mem _ hw)
  have C : zctx 261 p (headSpec zW261 zR261).room s m (((za61 i q).map (zrv b base)).toArray) meth c := ⟨B.exec, B.bytes, B.returns, hml, hown, hz, B.notSynchronized, hN, fun z => absurd z (by decide +kernel), Nat.le_of_ble_eq_true rfl, Nat.le_of_ble_eq_true rfl⟩
  have F := zentry (y1 := 261) (as1 := za61 i q) hR (za61_ok hi hq t2 t7) (Nat.le_of_ble_eq_true rfl) (fun _ => za61_nl)
  rw [lg_entry_eq]
  obtain ⟨n, k⟩ := q261 i q h (fun pc ls st h1 => pc = 18 ∧ st = [vI 0] ∧ h1 = sI h 170 0 w) (zC1_mo hv (fun v h1 e => ⟨by omega, by omega, by rw [e.1]; exact hw, rfl, fun h2 e2 => zVu_k ⟨rfl, rfl, by rw [e2, e.1, e.2]⟩⟩))
  refine zVsim hck (cd := d261) (bad := 99) (fun e1 he _ => d261_ok e1 he) C n 0 _ [] h s.heap [] _ 0 0 k F hln ⟨Nat.zero_le _, Nat.zero_le _⟩ (fun pc1 ls1 st1 h1 k1 => ?_) (fun pc1 ls1 st1 h1 H1 locs1 lsr1 k1 hle F1 => ?_)
  · obtain ⟨-, -, rfl⟩ := k1
    show 0 + (nx h - nx h) ≤ _ ∧ 0 + (sc h - sc h) ≤ _
    rw [Nat.sub_self, Nat.sub_self]
    exact ⟨Nat.zero_le _, Nat.zero_le _⟩
  · obtain ⟨rfl, rfl, rfl⟩ := k1
    refine W.widen (k := 1) (n := 6) ?_ ?_ (vx_ret (W.iret B.exec B.bytes B.returns (fun t ht hW => ⟨_, _, rfl, by rw [ht]; exact F1.1.moved hW.alike, rfl, rfl⟩) F1.2.1 (by decide +kernel) B.notSynchronized))
    · show 0 + (nx h - nx h) ≤ 1
      omega
    · show 0 + (sc h - sc h) ≤ 6
      omega
end ZD
