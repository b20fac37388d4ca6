/-! law.node: what was thrown is caught; the law calls it. -/
set_option maxRecDepth 1000000 in
theorem zx_cw : Cond.codeWith (zNm 261) (zB 261) 5 (some .int) [(0, 10, 13, 13)] ∈ zwd := zwd_mem (i := 1095) (by decide +kernel) (by decide +kernel)
set_option maxRecDepth 1000000 in
theorem zx_ml : Cond.methodLink "SyntaxRulesLaw" 42 (zNm 261) ∈ zwd := zwd_mem (i := 1093) (by decide +kernel) (by decide +kernel)
set_option maxRecDepth 1000000 in
theorem zx_st : Cond.static (zNm 261) ∈ zwd := zwd_mem (i := 1094) (by decide +kernel) (by decide +kernel)
set_option maxRecDepth 1000000 in
theorem zx_in : Cond.initialized (zNm 261).cls ∈ zwd := zwd_mem (i := 0) (by decide +kernel) (by decide +kernel)
set_option maxRecDepth 1000000 in
theorem zx_cl : Cond.classLink "SyntaxRulesLaw" 13 zNS ∈ zwd := zwd_mem (i := 1096) (by decide +kernel) (by decide +kernel)
set_option maxRecDepth 1000000 in
theorem zx_ca : Cond.castable zNS zNS ∈ lw_tbl := List.mem_append_right _ (List.mem_of_getElem? (i := 1103) (by decide +kernel))
section ZE
variable {p : Program} {l : Launch} {e : Env} {R : Room} {s : State} {m : MethodId} {args : Array Value} {below : List Frame} {meth : Method} {c : Code} {H : Heap} {locs : List Loc} {cells slots : Nat} {Q : State → Prop}
variable {b base : Nat} {D : va_G} {h h1 : zH} {lsr : Array Slot} {i q : Int}
set_option maxRecDepth 1000000 in
set_option maxHeartbeats 4000000 in
/-- it threw, and gives 1 -/
theorem z261x (hck : ∀ y ∈ zcal, ∀ e1 ∈ zPR y, zchk y e1 = true) (hi : inR i) (hq : inR q) (t2 : zty 100 2 h) (t7 : zty 243 170 h) (hln : ln h 1 < 2 ^ 31) (hM : vx_Met l (zNm 6) (zwsl 6) zR6 (zP6 b base D [vR 2 100, vI i, vI q] h) (fun _ _ _ _ => False) (zXC b base D h) 1 6 (fun q => base ≤ q)) : vx_Met l (zNm 261) zW261 zR261 (zP6 b base D (za61 i q) h) (zQ261 b base D (fun v hf => v = 1 ∧ (hf = h ∨ hf = nw h 50 6))) (fun _ _ _ => False) 1 6 (fun q => base ≤ q) := by
  have hcal : (6 : Nat) ∈ zcal := by decide +kernel
  obtain ⟨m1, m2, m3⟩ := zMb_at hcal
  refine vx_ofWH (cc := zB 261) (maxL := 5) (ret := some .int) (hh := [(0, 10, 13, 13)]) (by decide +kernel) rfl ?_
  intro p e s m args below meth c s₁ B hml hv1
  obtain ⟨⟨rfl, hR, hN⟩, hX⟩ := hv1
  have hts := atoms_spec (ws := zW261) B.pre
  have hown : s.vm.findClass "SyntaxRulesLaw" = some m.cls := findClass_of_methodNamed B.named
  have hz : ∀ w ∈ zwd, w.before (((za61 i q).map (zrv b base)).toArray) s = true := fun w hw => hts w (List.mem_cons_of_mem _ hw)
  have htab := vx_table (x := zNm 261) B (hts _ List.mem_cons_self)
  have C : zctx 261 p (headSpec zW261 zR261).room s m (((za61 i q).map (zrv b base)).toArray) meth c := ⟨B.exec, B.bytes, B.returns, hml, hown, hz, B.notSynchronized, hN, fun z => absurd z (by decide +kernel), Nat.le_of_ble_eq_true rfl, Nat.le_of_ble_eq_true rfl⟩
  have F := zentry (y1 := 261) (as1 := za61 i q) hR (za61_ok hi hq t2 t7) (Nat.le_of_ble_eq_true rfl) (fun _ => za61_nl)
  rw [lg_entry_eq]
  obtain ⟨n, k⟩ := q261x i q h (fun pc ls st h1 => pc = 5 ∧ st = [vI q, vI i, vR 2 100, vI 0, vR 170 243] ∧ h1 = h) (zVu_k ⟨rfl, rfl, rfl⟩)
  refine zVsim hck (cd := d261) (bad := 5) (fun e1 he _ => d261_ok e1 he) C n 0 _ [] h s.heap [] _ 0 0 k F hln ⟨Nat.zero_le _, Nat.zero_le _⟩ (fun pc1 ls1 st1 h1 k1 => ?_) (fun pc1 ls1 st1 h1 H1 locs1 lsr1 k1 hle F1 => ?_)
  · obtain ⟨-, -, rfl⟩ := k1
    rw [Nat.sub_self, Nat.sub_self]
    exact ⟨Nat.zero_le _, Nat.zero_le _⟩
  · obtain ⟨rfl, rfl, rfl⟩ := k1
    rw [Nat.sub_self, Nat.sub_self]
    refine zWS (base := base) F1.2.1 (fun hS => ?_)
    obtain ⟨x1, x2, x3⟩ := zty_obj (ci := 0) (by decide) t2
    obtain ⟨cellB, g1, g2, g3, -⟩ := (show zobj 0 2 h1 from ⟨x1, x2, Or.inl x3⟩).ob (by decide) F1.1
    have hcl6 : s.vm.findClass "SyntaxRules" = some cellB.cls := by
      rw [g2]
      exact (F1.1.2.2.2.2.2.2.2.1 0 _ (zcr_at (by decide))).2.1
    have hm : (7, 6, 0) ∈ zML 12 := by decide +kernel
    have hmw := zML_w _ _ hm
    have hini : (Cond.initialized (zNm 6).cls).before (((za61 i q).map (zrv b base)).toArray) s = true := hz _ (zMy_w 6 hcal _ (List.mem_cons_of_mem _ List.mem_cons_self))
    have hsizes : lsr1.size = 5 := F1.2.2.2.1.1
    have hr := vx_runV (C := "SyntaxRules") (As := [Value.int (Int32.ofInt i), Value.int (Int32.ofInt q)]) (rest := [Value.int (Int32.ofInt 0), zrv b base (vR 170 243)]) (n := 2) (g := F0 m 5 lsr1 ([vI q, vI i, vR 2 100, vI 0, vR 170 243].map (zrv b base))) (b := zra b base 2) (cells := 0) (slots := 0) (R := (headSpec zW261 zR261).room) (l := l) (e := e) (below := below) (meth := meth) (H := H1) (locs := locs1) (p := p) (cc := zB 261) (nL := 5) (Ts := zwd) (own := "SyntaxRulesLaw") ⟨B.exec, B.bytes, hml, hown, hz⟩ hM ⟨callB_of 2 hz (zgood hcal) rfl rfl rfl hini (hz _ (hmw _ List.mem_cons_self)) m2 ⟨Nat.le_of_ble_eq_true rfl, Nat.le_of_ble_eq_true rfl⟩, hz _ (hmw _ (List.mem_cons_of_mem _ List.mem_cons_self)), hz _ (hmw _ (List.mem_cons_of_mem _ (List.mem_cons_of_mem _ List.mem_cons_self)))⟩ ⟨zP6_blind, ⟨cellB, g1, by rw [g3]; rfl, hcl6⟩, fun U hU hW => ⟨⟨rfl, by rw [hU]; exact F1.1.moved hW.alike, hN.warm hW⟩, hX.to hS hU hW⟩⟩ rfl rfl hsizes rfl (lv_room (Nat.le_of_ble_eq_true rfl)) (show decode (zB 261) 5 = .ok (.invokevirtual 7, 3) from by decide +kernel) ⟨Nat.le_of_ble_eq_true rfl, Nat.le_of_ble_eq_true rfl⟩
    intro T hT X
    rcases hr T hT X with ⟨v, st₀, t, T', L, h0, X', hL, e1, e2, hq, stp⟩ | ⟨q9, st₀, t, T', L, E, ce, h0, X', hL, e1, e2, hx, hce, hcv, hcl, stp⟩
    · exact hq.elim
    · obtain ⟨rfl, H2, hR2, hs1, hs2⟩ := hx
      have hvm : t.vm.Alike s.vm := by rw [← e2]; exact X'.warmed.alike.symm
      have hsz : T'.heap.size ≤ s.heap.size + (0 + 1) := X'.same.2.2.1
      have hsz0 : s.heap.size = H2.size := by rw [hR.2.1, hR2.2.1]
      have hG := (hR2.moved hvm).gr (H2 := T'.heap) (by rw [e1]; exact hs1) (by rw [e1]; exact hs2) (by omega)
      have hl2 : ∀ q ∈ locs1 ++ L, base ≤ q.base := fun q hq => by
        rcases List.mem_append.mp hq with w | w
        · exact F1.2.1 q w
        · exact hL q w
      have kk : vx_W p l e (headSpec zW261 zR261).room s m (((za61 i q).map (zrv b base)).toArray) below meth c T'.heap (locs1 ++ L) (0 + 1) (0 + 6) (vx_MQ below (zQ261 b base D (fun v hf => v = 1 ∧ (hf = h1 ∨ hf = nw h1 50 6))) (fun _ _ _ => False) (((za61 i q).map (zrv b base)).toArray) s 1 6 (fun q => base ≤ q)) (F0 m 5 lsr1 [Value.int (Int32.ofInt 0), zrv b base (vR 170 243)]) q9 := by
        refine vx_catch (own := "SyntaxRulesLaw") (name := zNS) (E := zNS) (ce := ce) hown [] ⟨0, 10, 13, 13⟩ [] htab (fun z hz => absurd hz List.not_mem_nil) (by decide) (by decide) (hz _ zx_cl) (va_Nw.use rfl (hX.2.2 _ zx_ca rfl)) (by rw [e1]; exact hce) hcv hcl ?_
        refine lv_astore (i := 4) (nL := 5) (cc := zB 261) B.exec B.bytes (by decide +kernel) F1.2.2.2.1 (by decide) rfl (fun ls' hl' => ?_)
        refine lv_iconst (cc := zB 261) (n := 1) (v := 1) B.exec B.bytes (by decide +kernel) (by decide) ?_
        refine vx_ret (W.iret (cc := zB 261) B.exec B.bytes B.returns (fun t ht hW => ?_) hl2 (by decide +kernel) B.notSynchronized)
        rcases hG with hG | hG
        · exact ⟨_, _, rfl, by rw [ht]; exact hG.moved hW.alike, rfl, Or.inl rfl⟩
        · exact ⟨_, _, rfl, by rw [ht]; exact hG.moved hW.alike, rfl, Or.inr rfl⟩
      obtain ⟨t3, a1, b1⟩ := kk T' rfl X'
      exact ⟨t3, stp.trans a1, b1⟩
end ZE
