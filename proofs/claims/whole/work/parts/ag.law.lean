/-! The law's own code, piece by piece. (Written by genlaw.py.) -/
/-- method y: from here it comes to a place with K; the place 'bad' is not gone through -/
def zUn (y bad : Nat) (K : Nat → List zV → List zV → zH → Prop) : Nat → Nat → List zV → List zV → zH → Prop
  | 0, pc, ls, st, h => K pc ls st h
  | n + 1, pc, ls, st, h => K pc ls st h ∨ (¬ pc = bad ∧ ∃ len E ops, zfind pc (zPR y) = some (len, E, ops) ∧ zwp zPR zLM (zstp E ops pc len ls st h) ls h (fun pc1 ls1 st1 h1 => zUn y bad K n pc1 ls1 st1 h1) (fun _ _ => False))
def zUy (y bad : Nat) (K : Nat → List zV → List zV → zH → Prop) (pc : Nat) (ls st : List zV) (h : zH) : Prop := ∃ n, zUn y bad K n pc ls st h
abbrev zU (K : Nat → List zV → List zV → zH → Prop) (pc : Nat) (ls st : List zV) (h : zH) : Prop := zUy 262 283 K pc ls st h
section ZU
variable {y bad : Nat} {K : Nat → List zV → List zV → zH → Prop} {pc len : Nat} {E : Instr} {ops : List Nat} {ls st : List zV} {h : zH}
theorem zU_k (k : K pc ls st h) : zUy y bad K pc ls st h := ⟨0, k⟩
theorem zU_step (h0 : ¬ pc = bad) (hf : zfind pc (zPR y) = some (len, E, ops)) (k : zwp zPR zLM (zstp E ops pc len ls st h) ls h (fun pc1 ls1 st1 h1 => zUy y bad K pc1 ls1 st1 h1) (fun _ _ => False)) : zUy y bad K pc ls st h := by
  unfold zwp at k
  rw [zg_iff] at k
  obtain ⟨hg, k⟩ := k
  suffices hh : ∃ n, zwp zPR zLM (zstp E ops pc len ls st h) ls h (fun pc1 ls1 st1 h1 => zUn y bad K n pc1 ls1 st1 h1) (fun _ _ => False) by
    obtain ⟨n, a⟩ := hh
    exact ⟨n + 1, Or.inr ⟨h0, len, E, ops, hf, a⟩⟩
  revert k
  rcases hs : (zstp E ops pc len ls st h).2 with _ | ⟨wf, brs, d, ls1, st1, h1⟩ | q1 | ⟨y1, k1, args, rest, pc1⟩
  · exact fun k => k.elim
  · intro k
    have k : zbr brs d (fun pc1 => zUy y bad K pc1 ls1 st1 h1) := by
      cases wf with
      | true => exact k h1 rfl
      | false => exact k
    obtain ⟨n, a⟩ := zbr_iff.mp k
    refine ⟨n, ?_⟩
    unfold zwp
    rw [zg_iff, hs]
    refine ⟨hg, ?_⟩
    cases wf with
    | true => exact fun h2 e2 => zbr_iff.mpr (by rw [e2]; exact a)
    | false => exact zbr_iff.mpr a
  · exact fun k => k.elim
  · intro k
    suffices hh : ∃ n, zcall zPR zLM y1 k1 args h (fun vs h1 => zUn y bad K n pc1 ls (vs ++ rest) h1) by
      obtain ⟨n, a⟩ := hh
      refine ⟨n, ?_⟩
      unfold zwp
      rw [zg_iff, hs]
      exact ⟨hg, a⟩
    match k1, k with
    | 0, k => obtain ⟨n, q, a, b, m, c⟩ := k; exact ⟨m, n, q, a, b, c⟩
    | 1, k => obtain ⟨n, q, a, v, b, m, c⟩ := k; exact ⟨m, n, q, a, v, b, c⟩
    | k1 + 2, k => obtain ⟨n, q, a, v, b, m, c⟩ := k; exact ⟨m, n, q, a, v, b, c⟩
def zwpu (y bad : Nat) (K : Nat → List zV → List zV → zH → Prop) (cd : List zE) (cuts : List Nat) : Nat → Nat → List zV → List zV → zH → Prop
  | 0, pc, ls, st, h => zUy y bad K pc ls st h
  | n + 1, pc, ls, st, h => match zfind pc cd with
    | none => False
    | some (len, E, ops) => bif Nat.beq pc bad then False else zwp zPR zLM (zstp E ops pc len ls st h) ls h (fun pc1 ls1 st1 h1 => bif cuts.elem pc1 then zUy y bad K pc1 ls1 st1 h1 else zwpu y bad K cd cuts n pc1 ls1 st1 h1) (fun _ _ => False)
theorem zwpu_U {cd : List zE} (hc : zPR y = cd) (cuts : List Nat) : ∀ (n pc : Nat) (ls st : List zV) (h : zH), zwpu y bad K cd cuts n pc ls st h → zUy y bad K pc ls st h := by
  subst hc
  intro n
  induction n with
  | zero => intro pc ls st h k; exact k
  | succ n ih =>
    intro pc ls st h k
    unfold zwpu at k
    cases hf : zfind pc (zPR y) with
    | none => rw [hf] at k; exact k.elim
    | some w =>
      obtain ⟨len, E, ops⟩ := w
      rw [hf] at k
      dsimp only at k
      cases hb : Nat.beq pc bad with
      | true => rw [hb] at k; exact k.elim
      | false =>
        rw [hb] at k
        refine zU_step (fun e => by rw [e, Nat.beq_refl] at hb; cases hb) hf (zwp_mono (fun a b c d q => ?_) k)
        revert q
        cases cuts.elem a with
        | true => exact id
        | false => exact ih _ _ _ _
end ZU
set_option maxRecDepth 100000 in
set_option maxHeartbeats 4000000 in
theorem q0 (p0 : Nat) (h : zH) (K : Nat → List zV → List zV → zH → Prop) (k :
  ∀ h64 : zH, h64 = nw h 20 13 →
  (¬ (nx h : Nat) = 0) ∧ zC0 0 [vR (nx h) 0] h64 (fun h65 =>
  ∀ h66 : zH, h66 = nw h65 31 68 →
  (¬ (nx h65 : Nat) = 0) ∧ zC0 139 [vR (nx h65) 0] h66 (fun h67 =>
  (0 ≤ (1 : Int) ∧ (1 : Int) ≤ 10000) ∧ ∀ h68 : zH, h68 = nw h67 43 ((1 : Int)).toNat →
  zU K 23 [vR p0 147, vR (nx h) 0, vR (nx h65) 0, vR (nx h67) 0, vI 0, vU, vU] [] h68))) : zU K 0 [vR p0 147, vU, vU, vU, vU, vU, vU] [] h :=
  zwpu_U (cd := c262) rfl [23, 168, 193, 218, 231, 244, 269, 283, 286, 337, 374, 411, 436, 473, 510, 547, 584, 645, 682, 707, 732, 757, 806, 855, 892, 929, 954, 991, 1040, 1053, 1078, 1103, 1128, 1134] 420 0 _ _ _ k
set_option maxRecDepth 100000 in
set_option maxHeartbeats 4000000 in
theorem q23 (a0 : Nat) (a1 : Nat) (a2 : Nat) (a3 : Nat) (l4 : Int) (u5 : zV) (u6 : zV) (h : zH) (K : Nat → List zV → List zV → zH → Prop) (k :
  (inR ((Int.ofNat (ln h a0)) - 5)) ∧ (((Int.ofNat (ln h a0)) - 5) < l4 →
    zU K 1134 [vR a0 147, vR a1 0, vR a2 0, vR a3 0, vI l4, u5, u6] [] h) ∧
    (¬ (((Int.ofNat (ln h a0)) - 5) < l4) →
    (0 ≤ (l4 : Int)) ∧ ((l4 : Int) < Int.ofNat (ln h a0)) ∧ ((iAnd (gI h a0 l4) 31) = (0 : Int) →
      zU K 168 [vR a0 147, vR a1 0, vR a2 0, vR a3 0, vI l4, u5, u6] [] h) ∧
      (¬ ((iAnd (gI h a0 l4) 31) = (0 : Int)) →
      ((iAnd (gI h a0 l4) 31) = ((0 : Int) + 1) →
      zU K 193 [vR a0 147, vR a1 0, vR a2 0, vR a3 0, vI l4, u5, u6] [] h) ∧
      (¬ ((iAnd (gI h a0 l4) 31) = ((0 : Int) + 1)) →
      ((iAnd (gI h a0 l4) 31) = ((0 : Int) + 1 + 1) →
      zU K 218 [vR a0 147, vR a1 0, vR a2 0, vR a3 0, vI l4, u5, u6] [] h) ∧
      (¬ ((iAnd (gI h a0 l4) 31) = ((0 : Int) + 1 + 1)) →
      ((iAnd (gI h a0 l4) 31) = ((0 : Int) + 1 + 1 + 1) →
      zU K 231 [vR a0 147, vR a1 0, vR a2 0, vR a3 0, vI l4, u5, u6] [] h) ∧
      (¬ ((iAnd (gI h a0 l4) 31) = ((0 : Int) + 1 + 1 + 1)) →
      ((iAnd (gI h a0 l4) 31) = ((0 : Int) + 1 + 1 + 1 + 1) →
      zU K 244 [vR a0 147, vR a1 0, vR a2 0, vR a3 0, vI l4, u5, u6] [] h) ∧
      (¬ ((iAnd (gI h a0 l4) 31) = ((0 : Int) + 1 + 1 + 1 + 1)) →
      ((iAnd (gI h a0 l4) 31) = ((0 : Int) + 1 + 1 + 1 + 1 + 1) →
      zU K 269 [vR a0 147, vR a1 0, vR a2 0, vR a3 0, vI l4, u5, u6] [] h) ∧
      (¬ ((iAnd (gI h a0 l4) 31) = ((0 : Int) + 1 + 1 + 1 + 1 + 1)) →
      ((iAnd (gI h a0 l4) 31) = ((0 : Int) + 1 + 1 + 1 + 1 + 1 + 1) →
      zU K 337 [vR a0 147, vR a1 0, vR a2 0, vR a3 0, vI l4, u5, u6] [] h) ∧
      (¬ ((iAnd (gI h a0 l4) 31) = ((0 : Int) + 1 + 1 + 1 + 1 + 1 + 1)) →
      ((iAnd (gI h a0 l4) 31) = ((0 : Int) + 1 + 1 + 1 + 1 + 1 + 1 + 1) →
      zU K 374 [vR a0 147, vR a1 0, vR a2 0, vR a3 0, vI l4, u5, u6] [] h) ∧
      (¬ ((iAnd (gI h a0 l4) 31) = ((0 : Int) + 1 + 1 + 1 + 1 + 1 + 1 + 1)) →
      ((iAnd (gI h a0 l4) 31) = ((0 : Int) + 1 + 1 + 1 + 1 + 1 + 1 + 1 + 1) →
      zU K 411 [vR a0 147, vR a1 0, vR a2 0, vR a3 0, vI l4, u5, u6] [] h) ∧
      (¬ ((iAnd (gI h a0 l4) 31) = ((0 : Int) + 1 + 1 + 1 + 1 + 1 + 1 + 1 + 1)) →
      ((iAnd (gI h a0 l4) 31) = ((0 : Int) + 1 + 1 + 1 + 1 + 1 + 1 + 1 + 1 + 1) →
      zU K 436 [vR a0 147, vR a1 0, vR a2 0, vR a3 0, vI l4, u5, u6] [] h) ∧
      (¬ ((iAnd (gI h a0 l4) 31) = ((0 : Int) + 1 + 1 + 1 + 1 + 1 + 1 + 1 + 1 + 1)) →
      ((iAnd (gI h a0 l4) 31) = ((0 : Int) + 1 + 1 + 1 + 1 + 1 + 1 + 1 + 1 + 1 + 1) →
      zU K 473 [vR a0 147, vR a1 0, vR a2 0, vR a3 0, vI l4, u5, u6] [] h) ∧
      (¬ ((iAnd (gI h a0 l4) 31) = ((0 : Int) + 1 + 1 + 1 + 1 + 1 + 1 + 1 + 1 + 1 + 1)) →
      ((iAnd (gI h a0 l4) 31) = ((0 : Int) + 1 + 1 + 1 + 1 + 1 + 1 + 1 + 1 + 1 + 1 + 1) →
      zU K 510 [vR a0 147, vR a1 0, vR a2 0, vR a3 0, vI l4, u5, u6] [] h) ∧
      (¬ ((iAnd (gI h a0 l4) 31) = ((0 : Int) + 1 + 1 + 1 + 1 + 1 + 1 + 1 + 1 + 1 + 1 + 1)) →
      ((iAnd (gI h a0 l4) 31) = ((0 : Int) + 1 + 1 + 1 + 1 + 1 + 1 + 1 + 1 + 1 + 1 + 1 + 1) →
      zU K 547 [vR a0 147, vR a1 0, vR a2 0, vR a3 0, vI l4, u5, u6] [] h) ∧
      (¬ ((iAnd (gI h a0 l4) 31) = ((0 : Int) + 1 + 1 + 1 + 1 + 1 + 1 + 1 + 1 + 1 + 1 + 1 + 1)) →
      ((iAnd (gI h a0 l4) 31) = ((0 : Int) + 1 + 1 + 1 + 1 + 1 + 1 + 1 + 1 + 1 + 1 + 1 + 1 + 1) →
      zU K 584 [vR a0 147, vR a1 0, vR a2 0, vR a3 0, vI l4, u5, u6] [] h) ∧
      (¬ ((iAnd (gI h a0 l4) 31) = ((0 : Int) + 1 + 1 + 1 + 1 + 1 + 1 + 1 + 1 + 1 + 1 + 1 + 1 + 1)) →
      ((iAnd (gI h a0 l4) 31) = ((0 : Int) + 1 + 1 + 1 + 1 + 1 + 1 + 1 + 1 + 1 + 1 + 1 + 1 + 1 + 1) →
      zU K 645 [vR a0 147, vR a1 0, vR a2 0, vR a3 0, vI l4, u5, u6] [] h) ∧
      (¬ ((iAnd (gI h a0 l4) 31) = ((0 : Int) + 1 + 1 + 1 + 1 + 1 + 1 + 1 + 1 + 1 + 1 + 1 + 1 + 1 + 1)) →
      ((iAnd (gI h a0 l4) 31) = ((0 : Int) + 1 + 1 + 1 + 1 + 1 + 1 + 1 + 1 + 1 + 1 + 1 + 1 + 1 + 1 + 1) →
      zU K 682 [vR a0 147, vR a1 0, vR a2 0, vR a3 0, vI l4, u5, u6] [] h) ∧
      (¬ ((iAnd (gI h a0 l4) 31) = ((0 : Int) + 1 + 1 + 1 + 1 + 1 + 1 + 1 + 1 + 1 + 1 + 1 + 1 + 1 + 1 + 1)) →
      ((iAnd (gI h a0 l4) 31) = ((0 : Int) + 1 + 1 + 1 + 1 + 1 + 1 + 1 + 1 + 1 + 1 + 1 + 1 + 1 + 1 + 1 + 1) →
      zU K 707 [vR a0 147, vR a1 0, vR a2 0, vR a3 0, vI l4, u5, u6] [] h) ∧
      (¬ ((iAnd (gI h a0 l4) 31) = ((0 : Int) + 1 + 1 + 1 + 1 + 1 + 1 + 1 + 1 + 1 + 1 + 1 + 1 + 1 + 1 + 1 + 1)) →
      ((iAnd (gI h a0 l4) 31) = ((0 : Int) + 1 + 1 + 1 + 1 + 1 + 1 + 1 + 1 + 1 + 1 + 1 + 1 + 1 + 1 + 1 + 1 + 1) →
      zU K 732 [vR a0 147, vR a1 0, vR a2 0, vR a3 0, vI l4, u5, u6] [] h) ∧
      (¬ ((iAnd (gI h a0 l4) 31) = ((0 : Int) + 1 + 1 + 1 + 1 + 1 + 1 + 1 + 1 + 1 + 1 + 1 + 1 + 1 + 1 + 1 + 1 + 1)) →
      ((iAnd (gI h a0 l4) 31) = ((0 : Int) + 1 + 1 + 1 + 1 + 1 + 1 + 1 + 1 + 1 + 1 + 1 + 1 + 1 + 1 + 1 + 1 + 1 + 1) →
      zU K 757 [vR a0 147, vR a1 0, vR a2 0, vR a3 0, vI l4, u5, u6] [] h) ∧
      (¬ ((iAnd (gI h a0 l4) 31) = ((0 : Int) + 1 + 1 + 1 + 1 + 1 + 1 + 1 + 1 + 1 + 1 + 1 + 1 + 1 + 1 + 1 + 1 + 1 + 1)) →
      ((iAnd (gI h a0 l4) 31) = ((0 : Int) + 1 + 1 + 1 + 1 + 1 + 1 + 1 + 1 + 1 + 1 + 1 + 1 + 1 + 1 + 1 + 1 + 1 + 1 + 1) →
      zU K 806 [vR a0 147, vR a1 0, vR a2 0, vR a3 0, vI l4, u5, u6] [] h) ∧
      (¬ ((iAnd (gI h a0 l4) 31) = ((0 : Int) + 1 + 1 + 1 + 1 + 1 + 1 + 1 + 1 + 1 + 1 + 1 + 1 + 1 + 1 + 1 + 1 + 1 + 1 + 1)) →
      ((iAnd (gI h a0 l4) 31) = ((0 : Int) + 1 + 1 + 1 + 1 + 1 + 1 + 1 + 1 + 1 + 1 + 1 + 1 + 1 + 1 + 1 + 1 + 1 + 1 + 1 + 1) →
      zU K 855 [vR a0 147, vR a1 0, vR a2 0, vR a3 0, vI l4, u5, u6] [] h) ∧
      (¬ ((iAnd (gI h a0 l4) 31) = ((0 : Int) + 1 + 1 + 1 + 1 + 1 + 1 + 1 + 1 + 1 + 1 + 1 + 1 + 1 + 1 + 1 + 1 + 1 + 1 + 1 + 1)) →
      ((iAnd (gI h a0 l4) 31) = ((0 : Int) + 1 + 1 + 1 + 1 + 1 + 1 + 1 + 1 + 1 + 1 + 1 + 1 + 1 + 1 + 1 + 1 + 1 + 1 + 1 + 1 + 1) →
      zU K 892 [vR a0 147, vR a1 0, vR a2 0, vR a3 0, vI l4, u5, u6] [] h) ∧
      (¬ ((iAnd (gI h a0 l4) 31) = ((0 : Int) + 1 + 1 + 1 + 1 + 1 + 1 + 1 + 1 + 1 + 1 + 1 + 1 + 1 + 1 + 1 + 1 + 1 + 1 + 1 + 1 + 1)) →
      ((iAnd (gI h a0 l4) 31) = ((0 : Int) + 1 + 1 + 1 + 1 + 1 + 1 + 1 + 1 + 1 + 1 + 1 + 1 + 1 + 1 + 1 + 1 + 1 + 1 + 1 + 1 + 1 + 1) →
      zU K 929 [vR a0 147, vR a1 0, vR a2 0, vR a3 0, vI l4, u5, u6] [] h) ∧
      (¬ ((iAnd (gI h a0 l4) 31) = ((0 : Int) + 1 + 1 + 1 + 1 + 1 + 1 + 1 + 1 + 1 + 1 + 1 + 1 + 1 + 1 + 1 + 1 + 1 + 1 + 1 + 1 + 1 + 1)) →
      ((iAnd (gI h a0 l4) 31) = ((0 : Int) + 1 + 1 + 1 + 1 + 1 + 1 + 1 + 1 + 1 + 1 + 1 + 1 + 1 + 1 + 1 + 1 + 1 + 1 + 1 + 1 + 1 + 1 + 1) →
      zU K 954 [vR a0 147, vR a1 0, vR a2 0, vR a3 0, vI l4, u5, u6] [] h) ∧
      (¬ ((iAnd (gI h a0 l4) 31) = ((0 : Int) + 1 + 1 + 1 + 1 + 1 + 1 + 1 + 1 + 1 + 1 + 1 + 1 + 1 + 1 + 1 + 1 + 1 + 1 + 1 + 1 + 1 + 1 + 1)) →
      ((iAnd (gI h a0 l4) 31) = ((0 : Int) + 1 + 1 + 1 + 1 + 1 + 1 + 1 + 1 + 1 + 1 + 1 + 1 + 1 + 1 + 1 + 1 + 1 + 1 + 1 + 1 + 1 + 1 + 1 + 1) →
      zU K 991 [vR a0 147, vR a1 0, vR a2 0, vR a3 0, vI l4, u5, u6] [] h) ∧
      (¬ ((iAnd (gI h a0 l4) 31) = ((0 : Int) + 1 + 1 + 1 + 1 + 1 + 1 + 1 + 1 + 1 + 1 + 1 + 1 + 1 + 1 + 1 + 1 + 1 + 1 + 1 + 1 + 1 + 1 + 1 + 1)) →
      ((iAnd (gI h a0 l4) 31) = ((0 : Int) + 1 + 1 + 1 + 1 + 1 + 1 + 1 + 1 + 1 + 1 + 1 + 1 + 1 + 1 + 1 + 1 + 1 + 1 + 1 + 1 + 1 + 1 + 1 + 1 + 1) →
      zU K 1040 [vR a0 147, vR a1 0, vR a2 0, vR a3 0, vI l4, u5, u6] [] h) ∧
      (¬ ((iAnd (gI h a0 l4) 31) = ((0 : Int) + 1 + 1 + 1 + 1 + 1 + 1 + 1 + 1 + 1 + 1 + 1 + 1 + 1 + 1 + 1 + 1 + 1 + 1 + 1 + 1 + 1 + 1 + 1 + 1 + 1)) →
      ((iAnd (gI h a0 l4) 31) = ((0 : Int) + 1 + 1 + 1 + 1 + 1 + 1 + 1 + 1 + 1 + 1 + 1 + 1 + 1 + 1 + 1 + 1 + 1 + 1 + 1 + 1 + 1 + 1 + 1 + 1 + 1 + 1) →
      zU K 1053 [vR a0 147, vR a1 0, vR a2 0, vR a3 0, vI l4, u5, u6] [] h) ∧
      (¬ ((iAnd (gI h a0 l4) 31) = ((0 : Int) + 1 + 1 + 1 + 1 + 1 + 1 + 1 + 1 + 1 + 1 + 1 + 1 + 1 + 1 + 1 + 1 + 1 + 1 + 1 + 1 + 1 + 1 + 1 + 1 + 1 + 1)) →
      ((iAnd (gI h a0 l4) 31) = ((0 : Int) + 1 + 1 + 1 + 1 + 1 + 1 + 1 + 1 + 1 + 1 + 1 + 1 + 1 + 1 + 1 + 1 + 1 + 1 + 1 + 1 + 1 + 1 + 1 + 1 + 1 + 1 + 1) →
      zU K 1078 [vR a0 147, vR a1 0, vR a2 0, vR a3 0, vI l4, u5, u6] [] h) ∧
      (¬ ((iAnd (gI h a0 l4) 31) = ((0 : Int) + 1 + 1 + 1 + 1 + 1 + 1 + 1 + 1 + 1 + 1 + 1 + 1 + 1 + 1 + 1 + 1 + 1 + 1 + 1 + 1 + 1 + 1 + 1 + 1 + 1 + 1 + 1)) →
      ((iAnd (gI h a0 l4) 31) = ((0 : Int) + 1 + 1 + 1 + 1 + 1 + 1 + 1 + 1 + 1 + 1 + 1 + 1 + 1 + 1 + 1 + 1 + 1 + 1 + 1 + 1 + 1 + 1 + 1 + 1 + 1 + 1 + 1 + 1) →
      zU K 1103 [vR a0 147, vR a1 0, vR a2 0, vR a3 0, vI l4, u5, u6] [] h) ∧
      (¬ ((iAnd (gI h a0 l4) 31) = ((0 : Int) + 1 + 1 + 1 + 1 + 1 + 1 + 1 + 1 + 1 + 1 + 1 + 1 + 1 + 1 + 1 + 1 + 1 + 1 + 1 + 1 + 1 + 1 + 1 + 1 + 1 + 1 + 1 + 1)) →
      zU K 1128 [vR a0 147, vR a1 0, vR a2 0, vR a3 0, vI l4, u5, u6] [] h))))))))))))))))))))))))))))))) : zU K 23 [vR a0 147, vR a1 0, vR a2 0, vR a3 0, vI l4, u5, u6] [] h :=
  zwpu_U (cd := c262) rfl [23, 168, 193, 218, 231, 244, 269, 283, 286, 337, 374, 411, 436, 473, 510, 547, 584, 645, 682, 707, 732, 757, 806, 855, 892, 929, 954, 991, 1040, 1053, 1078, 1103, 1128, 1134] 420 23 _ _ _ k
set_option maxRecDepth 100000 in
set_option maxHeartbeats 4000000 in
theorem q168 (a0 : Nat) (a1 : Nat) (a2 : Nat) (a3 : Nat) (l4 : Int) (u5 : zV) (u6 : zV) (h : zH) (K : Nat → List zV → List zV → zH → Prop) (k :
  (inR (l4 + 1)) ∧ (0 ≤ (l4 + 1 : Int)) ∧ ((l4 + 1 : Int) < Int.ofNat (ln h a0)) ∧ (zty 100 a1 h) ∧ zC1 1 [vR a1 100, vI (gI h a0 (l4 + 1))] h (fun v69 h69 =>
  (inR (l4 + 1)) ∧ (0 ≤ (l4 + 1 : Int)) ∧ ((l4 + 1 : Int) < Int.ofNat (ln h69 a0)) ∧ (zty 111 a2 h69) ∧ zC1 146 [vR a2 111, vI (gI h69 a0 (l4 + 1))] h69 (fun v70 h70 =>
  (v69 = v70 →
    zU K 1128 [vR a0 147, vR a1 0, vR a2 0, vR a3 0, vI l4, u5, u6] [] h70) ∧
    (¬ (v69 = v70) →
    ((0 : Int) = 0 ∨ (0 : Int) = 1) ∧ False)))) : zU K 168 [vR a0 147, vR a1 0, vR a2 0, vR a3 0, vI l4, u5, u6] [] h :=
  zwpu_U (cd := c262) rfl [23, 168, 193, 218, 231, 244, 269, 283, 286, 337, 374, 411, 436, 473, 510, 547, 584, 645, 682, 707, 732, 757, 806, 855, 892, 929, 954, 991, 1040, 1053, 1078, 1103, 1128, 1134] 420 168 _ _ _ k
set_option maxRecDepth 100000 in
set_option maxHeartbeats 4000000 in
theorem q193 (a0 : Nat) (a1 : Nat) (a2 : Nat) (a3 : Nat) (l4 : Int) (u5 : zV) (u6 : zV) (h : zH) (K : Nat → List zV → List zV → zH → Prop) (k :
  (inR (l4 + 1)) ∧ (0 ≤ (l4 + 1 : Int)) ∧ ((l4 + 1 : Int) < Int.ofNat (ln h a0)) ∧ (zty 100 a1 h) ∧ zC1 2 [vR a1 100, vI (gI h a0 (l4 + 1))] h (fun v71 h71 =>
  (inR (l4 + 1)) ∧ (0 ≤ (l4 + 1 : Int)) ∧ ((l4 + 1 : Int) < Int.ofNat (ln h71 a0)) ∧ (zty 111 a2 h71) ∧ zC1 147 [vR a2 111, vI (gI h71 a0 (l4 + 1))] h71 (fun v72 h72 =>
  (v71 = v72 →
    zU K 1128 [vR a0 147, vR a1 0, vR a2 0, vR a3 0, vI l4, u5, u6] [] h72) ∧
    (¬ (v71 = v72) →
    ((0 : Int) = 0 ∨ (0 : Int) = 1) ∧ False)))) : zU K 193 [vR a0 147, vR a1 0, vR a2 0, vR a3 0, vI l4, u5, u6] [] h :=
  zwpu_U (cd := c262) rfl [23, 168, 193, 218, 231, 244, 269, 283, 286, 337, 374, 411, 436, 473, 510, 547, 584, 645, 682, 707, 732, 757, 806, 855, 892, 929, 954, 991, 1040, 1053, 1078, 1103, 1128, 1134] 420 193 _ _ _ k
set_option maxRecDepth 100000 in
set_option maxHeartbeats 4000000 in
theorem q218 (a0 : Nat) (a1 : Nat) (a2 : Nat) (a3 : Nat) (l4 : Int) (u5 : zV) (u6 : zV) (h : zH) (K : Nat → List zV → List zV → zH → Prop) (k :
  (zty 100 a1 h) ∧ zC1 3 [vR a1 100] h (fun v73 h73 =>
  (zty 111 a2 h73) ∧ zC1 162 [vR a2 111] h73 (fun v74 h74 =>
  (v73 = v74 →
    zU K 1128 [vR a0 147, vR a1 0, vR a2 0, vR a3 0, vI l4, u5, u6] [] h74) ∧
    (¬ (v73 = v74) →
    ((0 : Int) = 0 ∨ (0 : Int) = 1) ∧ False)))) : zU K 218 [vR a0 147, vR a1 0, vR a2 0, vR a3 0, vI l4, u5, u6] [] h :=
  zwpu_U (cd := c262) rfl [23, 168, 193, 218, 231, 244, 269, 283, 286, 337, 374, 411, 436, 473, 510, 547, 584, 645, 682, 707, 732, 757, 806, 855, 892, 929, 954, 991, 1040, 1053, 1078, 1103, 1128, 1134] 420 218 _ _ _ k
set_option maxRecDepth 100000 in
set_option maxHeartbeats 4000000 in
theorem q231 (a0 : Nat) (a1 : Nat) (a2 : Nat) (a3 : Nat) (l4 : Int) (u5 : zV) (u6 : zV) (h : zH) (K : Nat → List zV → List zV → zH → Prop) (k :
  (zty 100 a1 h) ∧ zC1 4 [vR a1 100] h (fun v75 h75 =>
  (zty 111 a2 h75) ∧ zC1 175 [vR a2 111] h75 (fun v76 h76 =>
  (v75 = v76 →
    zU K 1128 [vR a0 147, vR a1 0, vR a2 0, vR a3 0, vI l4, u5, u6] [] h76) ∧
    (¬ (v75 = v76) →
    ((0 : Int) = 0 ∨ (0 : Int) = 1) ∧ False)))) : zU K 231 [vR a0 147, vR a1 0, vR a2 0, vR a3 0, vI l4, u5, u6] [] h :=
  zwpu_U (cd := c262) rfl [23, 168, 193, 218, 231, 244, 269, 283, 286, 337, 374, 411, 436, 473, 510, 547, 584, 645, 682, 707, 732, 757, 806, 855, 892, 929, 954, 991, 1040, 1053, 1078, 1103, 1128, 1134] 420 231 _ _ _ k
set_option maxRecDepth 100000 in
set_option maxHeartbeats 4000000 in
theorem q244 (a0 : Nat) (a1 : Nat) (a2 : Nat) (a3 : Nat) (l4 : Int) (u5 : zV) (u6 : zV) (h : zH) (K : Nat → List zV → List zV → zH → Prop) (k :
  (inR (l4 + 1)) ∧ (0 ≤ (l4 + 1 : Int)) ∧ ((l4 + 1 : Int) < Int.ofNat (ln h a0)) ∧ (zty 100 a1 h) ∧ zC1 5 [vR a1 100, vI (gI h a0 (l4 + 1))] h (fun v77 h77 =>
  (inR (l4 + 1)) ∧ (0 ≤ (l4 + 1 : Int)) ∧ ((l4 + 1 : Int) < Int.ofNat (ln h77 a0)) ∧ (zty 111 a2 h77) ∧ zC1 178 [vR a2 111, vI (gI h77 a0 (l4 + 1))] h77 (fun v78 h78 =>
  (v77 = v78 →
    zU K 1128 [vR a0 147, vR a1 0, vR a2 0, vR a3 0, vI l4, u5, u6] [] h78) ∧
    (¬ (v77 = v78) →
    ((0 : Int) = 0 ∨ (0 : Int) = 1) ∧ False)))) : zU K 244 [vR a0 147, vR a1 0, vR a2 0, vR a3 0, vI l4, u5, u6] [] h :=
  zwpu_U (cd := c262) rfl [23, 168, 193, 218, 231, 244, 269, 283, 286, 337, 374, 411, 436, 473, 510, 547, 584, 645, 682, 707, 732, 757, 806, 855, 892, 929, 954, 991, 1040, 1053, 1078, 1103, 1128, 1134] 420 244 _ _ _ k
set_option maxRecDepth 100000 in
set_option maxHeartbeats 4000000 in
theorem q269 (a0 : Nat) (a1 : Nat) (a2 : Nat) (a3 : Nat) (l4 : Int) (u5 : zV) (u6 : zV) (h : zH) (K : Nat → List zV → List zV → zH → Prop) (k :
  (inR (l4 + 1)) ∧ (0 ≤ (l4 + 1 : Int)) ∧ ((l4 + 1 : Int) < Int.ofNat (ln h a0)) ∧ (inR (l4 + 2)) ∧ (0 ≤ (l4 + 2 : Int)) ∧ ((l4 + 2 : Int) < Int.ofNat (ln h a0)) ∧ zU K 283 [vR a0 147, vR a1 0, vR a2 0, vR a3 0, vI l4, u5, u6] [vR a3 0, vI (gI h a0 (l4 + 2)), vI (gI h a0 (l4 + 1)), vR a1 0] h) : zU K 269 [vR a0 147, vR a1 0, vR a2 0, vR a3 0, vI l4, u5, u6] [] h :=
  zwpu_U (cd := c262) rfl [23, 168, 193, 218, 231, 244, 269, 283, 286, 337, 374, 411, 436, 473, 510, 547, 584, 645, 682, 707, 732, 757, 806, 855, 892, 929, 954, 991, 1040, 1053, 1078, 1103, 1128, 1134] 420 269 _ _ _ k
set_option maxRecDepth 100000 in
set_option maxHeartbeats 4000000 in
theorem q286 (a0 : Nat) (a1 : Nat) (a2 : Nat) (a3 : Nat) (l4 : Int) (u5 : zV) (u6 : zV) (s0 : Int) (h : zH) (K : Nat → List zV → List zV → zH → Prop) (k :
  (inR (l4 + 1)) ∧ (0 ≤ (l4 + 1 : Int)) ∧ ((l4 + 1 : Int) < Int.ofNat (ln h a0)) ∧ (inR (l4 + 2)) ∧ (0 ≤ (l4 + 2 : Int)) ∧ ((l4 + 2 : Int) < Int.ofNat (ln h a0)) ∧ (zty 111 a2 h) ∧ zC1 197 [vR a2 111, vI (gI h a0 (l4 + 1)), vI (gI h a0 (l4 + 2))] h (fun v79 h79 =>
  (zty 111 a2 h79) ∧ zC1 140 [vR a2 111] h79 (fun v80 h80 =>
  (v80 = s0 →
    (¬ s0 = 0 →
      zU K 1128 [vR a0 147, vR a1 0, vR a2 0, vR a3 0, vI l4, vI s0, vI v79] [] h80) ∧
      (¬ (¬ s0 = 0) →
      (zty 143 a3 h80) ∧ (0 ≤ (0 : Int)) ∧ ((0 : Int) < Int.ofNat (ln h80 a3)) ∧ ((iCmp (gI h80 a3 0) v79) = 0 →
        zU K 1128 [vR a0 147, vR a1 0, vR a2 0, vR a3 0, vI l4, vI s0, vI v79] [] h80) ∧
        (¬ ((iCmp (gI h80 a3 0) v79) = 0) →
        ((0 : Int) = 0 ∨ (0 : Int) = 1) ∧ False))) ∧
    (¬ (v80 = s0) →
    ((0 : Int) = 0 ∨ (0 : Int) = 1) ∧ False)))) : zU K 286 [vR a0 147, vR a1 0, vR a2 0, vR a3 0, vI l4, u5, u6] [vI s0] h :=
  zwpu_U (cd := c262) rfl [23, 168, 193, 218, 231, 244, 269, 283, 286, 337, 374, 411, 436, 473, 510, 547, 584, 645, 682, 707, 732, 757, 806, 855, 892, 929, 954, 991, 1040, 1053, 1078, 1103, 1128, 1134] 420 286 _ _ _ k
set_option maxRecDepth 100000 in
set_option maxHeartbeats 4000000 in
theorem q337 (a0 : Nat) (a1 : Nat) (a2 : Nat) (a3 : Nat) (l4 : Int) (u5 : zV) (u6 : zV) (h : zH) (K : Nat → List zV → List zV → zH → Prop) (k :
  (inR (l4 + 1)) ∧ (0 ≤ (l4 + 1 : Int)) ∧ ((l4 + 1 : Int) < Int.ofNat (ln h a0)) ∧ (inR (l4 + 2)) ∧ (0 ≤ (l4 + 2 : Int)) ∧ ((l4 + 2 : Int) < Int.ofNat (ln h a0)) ∧ (zty 100 a1 h) ∧ zC1 7 [vR a1 100, vI (gI h a0 (l4 + 1)), vI (gI h a0 (l4 + 2))] h (fun v81 h81 =>
  (inR (l4 + 1)) ∧ (0 ≤ (l4 + 1 : Int)) ∧ ((l4 + 1 : Int) < Int.ofNat (ln h81 a0)) ∧ (inR (l4 + 2)) ∧ (0 ≤ (l4 + 2 : Int)) ∧ ((l4 + 2 : Int) < Int.ofNat (ln h81 a0)) ∧ (zty 111 a2 h81) ∧ zC1 198 [vR a2 111, vI (gI h81 a0 (l4 + 1)), vI (gI h81 a0 (l4 + 2))] h81 (fun v82 h82 =>
  (v81 = v82 →
    zU K 1128 [vR a0 147, vR a1 0, vR a2 0, vR a3 0, vI l4, u5, u6] [] h82) ∧
    (¬ (v81 = v82) →
    ((0 : Int) = 0 ∨ (0 : Int) = 1) ∧ False)))) : zU K 337 [vR a0 147, vR a1 0, vR a2 0, vR a3 0, vI l4, u5, u6] [] h :=
  zwpu_U (cd := c262) rfl [23, 168, 193, 218, 231, 244, 269, 283, 286, 337, 374, 411, 436, 473, 510, 547, 584, 645, 682, 707, 732, 757, 806, 855, 892, 929, 954, 991, 1040, 1053, 1078, 1103, 1128, 1134] 420 337 _ _ _ k
set_option maxRecDepth 100000 in
set_option maxHeartbeats 4000000 in
theorem q374 (a0 : Nat) (a1 : Nat) (a2 : Nat) (a3 : Nat) (l4 : Int) (u5 : zV) (u6 : zV) (h : zH) (K : Nat → List zV → List zV → zH → Prop) (k :
  (inR (l4 + 1)) ∧ (0 ≤ (l4 + 1 : Int)) ∧ ((l4 + 1 : Int) < Int.ofNat (ln h a0)) ∧ (inR (l4 + 2)) ∧ (0 ≤ (l4 + 2 : Int)) ∧ ((l4 + 2 : Int) < Int.ofNat (ln h a0)) ∧ (zty 100 a1 h) ∧ zC1 8 [vR a1 100, vI (gI h a0 (l4 + 1)), vI (gI h a0 (l4 + 2))] h (fun v83 h83 =>
  (inR (l4 + 1)) ∧ (0 ≤ (l4 + 1 : Int)) ∧ ((l4 + 1 : Int) < Int.ofNat (ln h83 a0)) ∧ (inR (l4 + 2)) ∧ (0 ≤ (l4 + 2 : Int)) ∧ ((l4 + 2 : Int) < Int.ofNat (ln h83 a0)) ∧ (zty 111 a2 h83) ∧ zC1 199 [vR a2 111, vI (gI h83 a0 (l4 + 1)), vI (gI h83 a0 (l4 + 2))] h83 (fun v84 h84 =>
  (v83 = v84 →
    zU K 1128 [vR a0 147, vR a1 0, vR a2 0, vR a3 0, vI l4, u5, u6] [] h84) ∧
    (¬ (v83 = v84) →
    ((0 : Int) = 0 ∨ (0 : Int) = 1) ∧ False)))) : zU K 374 [vR a0 147, vR a1 0, vR a2 0, vR a3 0, vI l4, u5, u6] [] h :=
  zwpu_U (cd := c262) rfl [23, 168, 193, 218, 231, 244, 269, 283, 286, 337, 374, 411, 436, 473, 510, 547, 584, 645, 682, 707, 732, 757, 806, 855, 892, 929, 954, 991, 1040, 1053, 1078, 1103, 1128, 1134] 420 374 _ _ _ k
set_option maxRecDepth 100000 in
set_option maxHeartbeats 4000000 in
theorem q411 (a0 : Nat) (a1 : Nat) (a2 : Nat) (a3 : Nat) (l4 : Int) (u5 : zV) (u6 : zV) (h : zH) (K : Nat → List zV → List zV → zH → Prop) (k :
  (inR (l4 + 1)) ∧ (0 ≤ (l4 + 1 : Int)) ∧ ((l4 + 1 : Int) < Int.ofNat (ln h a0)) ∧ (zty 100 a1 h) ∧ zC1 9 [vR a1 100, vI (gI h a0 (l4 + 1))] h (fun v85 h85 =>
  (inR (l4 + 1)) ∧ (0 ≤ (l4 + 1 : Int)) ∧ ((l4 + 1 : Int) < Int.ofNat (ln h85 a0)) ∧ (zty 111 a2 h85) ∧ zC1 200 [vR a2 111, vI (gI h85 a0 (l4 + 1))] h85 (fun v86 h86 =>
  (v85 = v86 →
    zU K 1128 [vR a0 147, vR a1 0, vR a2 0, vR a3 0, vI l4, u5, u6] [] h86) ∧
    (¬ (v85 = v86) →
    ((0 : Int) = 0 ∨ (0 : Int) = 1) ∧ False)))) : zU K 411 [vR a0 147, vR a1 0, vR a2 0, vR a3 0, vI l4, u5, u6] [] h :=
  zwpu_U (cd := c262) rfl [23, 168, 193, 218, 231, 244, 269, 283, 286, 337, 374, 411, 436, 473, 510, 547, 584, 645, 682, 707, 732, 757, 806, 855, 892, 929, 954, 991, 1040, 1053, 1078, 1103, 1128, 1134] 420 411 _ _ _ k
set_option maxRecDepth 100000 in
set_option maxHeartbeats 4000000 in
theorem q436 (a0 : Nat) (a1 : Nat) (a2 : Nat) (a3 : Nat) (l4 : Int) (u5 : zV) (u6 : zV) (h : zH) (K : Nat → List zV → List zV → zH → Prop) (k :
  (inR (l4 + 1)) ∧ (0 ≤ (l4 + 1 : Int)) ∧ ((l4 + 1 : Int) < Int.ofNat (ln h a0)) ∧ (inR (l4 + 2)) ∧ (0 ≤ (l4 + 2 : Int)) ∧ ((l4 + 2 : Int) < Int.ofNat (ln h a0)) ∧ (zty 100 a1 h) ∧ zC1 10 [vR a1 100, vI (gI h a0 (l4 + 1)), vI (gI h a0 (l4 + 2))] h (fun v87 h87 =>
  (inR (l4 + 1)) ∧ (0 ≤ (l4 + 1 : Int)) ∧ ((l4 + 1 : Int) < Int.ofNat (ln h87 a0)) ∧ (inR (l4 + 2)) ∧ (0 ≤ (l4 + 2 : Int)) ∧ ((l4 + 2 : Int) < Int.ofNat (ln h87 a0)) ∧ (zty 111 a2 h87) ∧ zC1 201 [vR a2 111, vI (gI h87 a0 (l4 + 1)), vI (gI h87 a0 (l4 + 2))] h87 (fun v88 h88 =>
  (v87 = v88 →
    zU K 1128 [vR a0 147, vR a1 0, vR a2 0, vR a3 0, vI l4, u5, u6] [] h88) ∧
    (¬ (v87 = v88) →
    ((0 : Int) = 0 ∨ (0 : Int) = 1) ∧ False)))) : zU K 436 [vR a0 147, vR a1 0, vR a2 0, vR a3 0, vI l4, u5, u6] [] h :=
  zwpu_U (cd := c262) rfl [23, 168, 193, 218, 231, 244, 269, 283, 286, 337, 374, 411, 436, 473, 510, 547, 584, 645, 682, 707, 732, 757, 806, 855, 892, 929, 954, 991, 1040, 1053, 1078, 1103, 1128, 1134] 420 436 _ _ _ k
set_option maxRecDepth 100000 in
set_option maxHeartbeats 4000000 in
theorem q473 (a0 : Nat) (a1 : Nat) (a2 : Nat) (a3 : Nat) (l4 : Int) (u5 : zV) (u6 : zV) (h : zH) (K : Nat → List zV → List zV → zH → Prop) (k :
  (inR (l4 + 1)) ∧ (0 ≤ (l4 + 1 : Int)) ∧ ((l4 + 1 : Int) < Int.ofNat (ln h a0)) ∧ (inR (l4 + 2)) ∧ (0 ≤ (l4 + 2 : Int)) ∧ ((l4 + 2 : Int) < Int.ofNat (ln h a0)) ∧ (zty 100 a1 h) ∧ zC1 11 [vR a1 100, vI (gI h a0 (l4 + 1)), vI (gI h a0 (l4 + 2))] h (fun v89 h89 =>
  (inR (l4 + 1)) ∧ (0 ≤ (l4 + 1 : Int)) ∧ ((l4 + 1 : Int) < Int.ofNat (ln h89 a0)) ∧ (inR (l4 + 2)) ∧ (0 ≤ (l4 + 2 : Int)) ∧ ((l4 + 2 : Int) < Int.ofNat (ln h89 a0)) ∧ (zty 111 a2 h89) ∧ zC1 202 [vR a2 111, vI (gI h89 a0 (l4 + 1)), vI (gI h89 a0 (l4 + 2))] h89 (fun v90 h90 =>
  (v89 = v90 →
    zU K 1128 [vR a0 147, vR a1 0, vR a2 0, vR a3 0, vI l4, u5, u6] [] h90) ∧
    (¬ (v89 = v90) →
    ((0 : Int) = 0 ∨ (0 : Int) = 1) ∧ False)))) : zU K 473 [vR a0 147, vR a1 0, vR a2 0, vR a3 0, vI l4, u5, u6] [] h :=
  zwpu_U (cd := c262) rfl [23, 168, 193, 218, 231, 244, 269, 283, 286, 337, 374, 411, 436, 473, 510, 547, 584, 645, 682, 707, 732, 757, 806, 855, 892, 929, 954, 991, 1040, 1053, 1078, 1103, 1128, 1134] 420 473 _ _ _ k
set_option maxRecDepth 100000 in
set_option maxHeartbeats 4000000 in
theorem q510 (a0 : Nat) (a1 : Nat) (a2 : Nat) (a3 : Nat) (l4 : Int) (u5 : zV) (u6 : zV) (h : zH) (K : Nat → List zV → List zV → zH → Prop) (k :
  (inR (l4 + 1)) ∧ (0 ≤ (l4 + 1 : Int)) ∧ ((l4 + 1 : Int) < Int.ofNat (ln h a0)) ∧ (inR (l4 + 2)) ∧ (0 ≤ (l4 + 2 : Int)) ∧ ((l4 + 2 : Int) < Int.ofNat (ln h a0)) ∧ (zty 100 a1 h) ∧ zC1 12 [vR a1 100, vI (gI h a0 (l4 + 1)), vI (gI h a0 (l4 + 2))] h (fun v91 h91 =>
  (inR (l4 + 1)) ∧ (0 ≤ (l4 + 1 : Int)) ∧ ((l4 + 1 : Int) < Int.ofNat (ln h91 a0)) ∧ (inR (l4 + 2)) ∧ (0 ≤ (l4 + 2 : Int)) ∧ ((l4 + 2 : Int) < Int.ofNat (ln h91 a0)) ∧ (zty 111 a2 h91) ∧ zC1 205 [vR a2 111, vI (gI h91 a0 (l4 + 1)), vI (gI h91 a0 (l4 + 2))] h91 (fun v92 h92 =>
  (v91 = v92 →
    zU K 1128 [vR a0 147, vR a1 0, vR a2 0, vR a3 0, vI l4, u5, u6] [] h92) ∧
    (¬ (v91 = v92) →
    ((0 : Int) = 0 ∨ (0 : Int) = 1) ∧ False)))) : zU K 510 [vR a0 147, vR a1 0, vR a2 0, vR a3 0, vI l4, u5, u6] [] h :=
  zwpu_U (cd := c262) rfl [23, 168, 193, 218, 231, 244, 269, 283, 286, 337, 374, 411, 436, 473, 510, 547, 584, 645, 682, 707, 732, 757, 806, 855, 892, 929, 954, 991, 1040, 1053, 1078, 1103, 1128, 1134] 420 510 _ _ _ k
set_option maxRecDepth 100000 in
set_option maxHeartbeats 4000000 in
theorem q547 (a0 : Nat) (a1 : Nat) (a2 : Nat) (a3 : Nat) (l4 : Int) (u5 : zV) (u6 : zV) (h : zH) (K : Nat → List zV → List zV → zH → Prop) (k :
  (inR (l4 + 1)) ∧ (0 ≤ (l4 + 1 : Int)) ∧ ((l4 + 1 : Int) < Int.ofNat (ln h a0)) ∧ (inR (l4 + 2)) ∧ (0 ≤ (l4 + 2 : Int)) ∧ ((l4 + 2 : Int) < Int.ofNat (ln h a0)) ∧ (zty 100 a1 h) ∧ zC1 13 [vR a1 100, vI (gI h a0 (l4 + 1)), vI (gI h a0 (l4 + 2))] h (fun v93 h93 =>
  (inR (l4 + 1)) ∧ (0 ≤ (l4 + 1 : Int)) ∧ ((l4 + 1 : Int) < Int.ofNat (ln h93 a0)) ∧ (inR (l4 + 2)) ∧ (0 ≤ (l4 + 2 : Int)) ∧ ((l4 + 2 : Int) < Int.ofNat (ln h93 a0)) ∧ (zty 111 a2 h93) ∧ zC1 192 [vR a2 111, vI (gI h93 a0 (l4 + 1)), vI (gI h93 a0 (l4 + 2))] h93 (fun v94 h94 =>
  (v93 = v94 →
    zU K 1128 [vR a0 147, vR a1 0, vR a2 0, vR a3 0, vI l4, u5, u6] [] h94) ∧
    (¬ (v93 = v94) →
    ((0 : Int) = 0 ∨ (0 : Int) = 1) ∧ False)))) : zU K 547 [vR a0 147, vR a1 0, vR a2 0, vR a3 0, vI l4, u5, u6] [] h :=
  zwpu_U (cd := c262) rfl [23, 168, 193, 218, 231, 244, 269, 283, 286, 337, 374, 411, 436, 473, 510, 547, 584, 645, 682, 707, 732, 757, 806, 855, 892, 929, 954, 991, 1040, 1053, 1078, 1103, 1128, 1134] 420 547 _ _ _ k
set_option maxRecDepth 100000 in
set_option maxHeartbeats 4000000 in
theorem q584 (a0 : Nat) (a1 : Nat) (a2 : Nat) (a3 : Nat) (l4 : Int) (u5 : zV) (u6 : zV) (h : zH) (K : Nat → List zV → List zV → zH → Prop) (k :
  (inR (l4 + 1)) ∧ (0 ≤ (l4 + 1 : Int)) ∧ ((l4 + 1 : Int) < Int.ofNat (ln h a0)) ∧ (inR (l4 + 2)) ∧ (0 ≤ (l4 + 2 : Int)) ∧ ((l4 + 2 : Int) < Int.ofNat (ln h a0)) ∧ (inR (l4 + 3)) ∧ (0 ≤ (l4 + 3 : Int)) ∧ ((l4 + 3 : Int) < Int.ofNat (ln h a0)) ∧ (inR (l4 + 4)) ∧ (0 ≤ (l4 + 4 : Int)) ∧ ((l4 + 4 : Int) < Int.ofNat (ln h a0)) ∧ (zty 100 a1 h) ∧ zC1 14 [vR a1 100, vI (gI h a0 (l4 + 1)), vI (gI h a0 (l4 + 2)), vI (gI h a0 (l4 + 3)), vI (gI h a0 (l4 + 4))] h (fun v95 h95 =>
  (inR (l4 + 1)) ∧ (0 ≤ (l4 + 1 : Int)) ∧ ((l4 + 1 : Int) < Int.ofNat (ln h95 a0)) ∧ (inR (l4 + 2)) ∧ (0 ≤ (l4 + 2 : Int)) ∧ ((l4 + 2 : Int) < Int.ofNat (ln h95 a0)) ∧ (inR (l4 + 3)) ∧ (0 ≤ (l4 + 3 : Int)) ∧ ((l4 + 3 : Int) < Int.ofNat (ln h95 a0)) ∧ (inR (l4 + 4)) ∧ (0 ≤ (l4 + 4 : Int)) ∧ ((l4 + 4 : Int) < Int.ofNat (ln h95 a0)) ∧ (zty 111 a2 h95) ∧ zC1 193 [vR a2 111, vI (gI h95 a0 (l4 + 1)), vI (gI h95 a0 (l4 + 2)), vI (gI h95 a0 (l4 + 3)), vI (gI h95 a0 (l4 + 4))] h95 (fun v96 h96 =>
  (v95 = v96 →
    zU K 1128 [vR a0 147, vR a1 0, vR a2 0, vR a3 0, vI l4, u5, u6] [] h96) ∧
    (¬ (v95 = v96) →
    ((0 : Int) = 0 ∨ (0 : Int) = 1) ∧ False)))) : zU K 584 [vR a0 147, vR a1 0, vR a2 0, vR a3 0, vI l4, u5, u6] [] h :=
  zwpu_U (cd := c262) rfl [23, 168, 193, 218, 231, 244, 269, 283, 286, 337, 374, 411, 436, 473, 510, 547, 584, 645, 682, 707, 732, 757, 806, 855, 892, 929, 954, 991, 1040, 1053, 1078, 1103, 1128, 1134] 420 584 _ _ _ k
set_option maxRecDepth 100000 in
set_option maxHeartbeats 4000000 in
theorem q645 (a0 : Nat) (a1 : Nat) (a2 : Nat) (a3 : Nat) (l4 : Int) (u5 : zV) (u6 : zV) (h : zH) (K : Nat → List zV → List zV → zH → Prop) (k :
  (inR (l4 + 1)) ∧ (0 ≤ (l4 + 1 : Int)) ∧ ((l4 + 1 : Int) < Int.ofNat (ln h a0)) ∧ (inR (l4 + 2)) ∧ (0 ≤ (l4 + 2 : Int)) ∧ ((l4 + 2 : Int) < Int.ofNat (ln h a0)) ∧ (zty 100 a1 h) ∧ zC1 15 [vR a1 100, vI (gI h a0 (l4 + 1)), vI (gI h a0 (l4 + 2))] h (fun v97 h97 =>
  (inR (l4 + 1)) ∧ (0 ≤ (l4 + 1 : Int)) ∧ ((l4 + 1 : Int) < Int.ofNat (ln h97 a0)) ∧ (inR (l4 + 2)) ∧ (0 ≤ (l4 + 2 : Int)) ∧ ((l4 + 2 : Int) < Int.ofNat (ln h97 a0)) ∧ (zty 111 a2 h97) ∧ zC1 194 [vR a2 111, vI (gI h97 a0 (l4 + 1)), vI (gI h97 a0 (l4 + 2))] h97 (fun v98 h98 =>
  (v97 = v98 →
    zU K 1128 [vR a0 147, vR a1 0, vR a2 0, vR a3 0, vI l4, u5, u6] [] h98) ∧
    (¬ (v97 = v98) →
    ((0 : Int) = 0 ∨ (0 : Int) = 1) ∧ False)))) : zU K 645 [vR a0 147, vR a1 0, vR a2 0, vR a3 0, vI l4, u5, u6] [] h :=
  zwpu_U (cd := c262) rfl [23, 168, 193, 218, 231, 244, 269, 283, 286, 337, 374, 411, 436, 473, 510, 547, 584, 645, 682, 707, 732, 757, 806, 855, 892, 929, 954, 991, 1040, 1053, 1078, 1103, 1128, 1134] 420 645 _ _ _ k
set_option maxRecDepth 100000 in
set_option maxHeartbeats 4000000 in
theorem q682 (a0 : Nat) (a1 : Nat) (a2 : Nat) (a3 : Nat) (l4 : Int) (u5 : zV) (u6 : zV) (h : zH) (K : Nat → List zV → List zV → zH → Prop) (k :
  (inR (l4 + 1)) ∧ (0 ≤ (l4 + 1 : Int)) ∧ ((l4 + 1 : Int) < Int.ofNat (ln h a0)) ∧ (zty 100 a1 h) ∧ zC1 16 [vR a1 100, vI (gI h a0 (l4 + 1))] h (fun v99 h99 =>
  (inR (l4 + 1)) ∧ (0 ≤ (l4 + 1 : Int)) ∧ ((l4 + 1 : Int) < Int.ofNat (ln h99 a0)) ∧ (zty 111 a2 h99) ∧ zC1 196 [vR a2 111, vI (gI h99 a0 (l4 + 1))] h99 (fun v100 h100 =>
  (v99 = v100 →
    zU K 1128 [vR a0 147, vR a1 0, vR a2 0, vR a3 0, vI l4, u5, u6] [] h100) ∧
    (¬ (v99 = v100) →
    ((0 : Int) = 0 ∨ (0 : Int) = 1) ∧ False)))) : zU K 682 [vR a0 147, vR a1 0, vR a2 0, vR a3 0, vI l4, u5, u6] [] h :=
  zwpu_U (cd := c262) rfl [23, 168, 193, 218, 231, 244, 269, 283, 286, 337, 374, 411, 436, 473, 510, 547, 584, 645, 682, 707, 732, 757, 806, 855, 892, 929, 954, 991, 1040, 1053, 1078, 1103, 1128, 1134] 420 682 _ _ _ k
set_option maxRecDepth 100000 in
set_option maxHeartbeats 4000000 in
theorem q707 (a0 : Nat) (a1 : Nat) (a2 : Nat) (a3 : Nat) (l4 : Int) (u5 : zV) (u6 : zV) (h : zH) (K : Nat → List zV → List zV → zH → Prop) (k :
  (inR (l4 + 1)) ∧ (0 ≤ (l4 + 1 : Int)) ∧ ((l4 + 1 : Int) < Int.ofNat (ln h a0)) ∧ (zty 100 a1 h) ∧ zC1 17 [vR a1 100, vI (gI h a0 (l4 + 1))] h (fun v101 h101 =>
  (inR (l4 + 1)) ∧ (0 ≤ (l4 + 1 : Int)) ∧ ((l4 + 1 : Int) < Int.ofNat (ln h101 a0)) ∧ (zty 111 a2 h101) ∧ zC1 219 [vR a2 111, vI (gI h101 a0 (l4 + 1))] h101 (fun v102 h102 =>
  (v101 = v102 →
    zU K 1128 [vR a0 147, vR a1 0, vR a2 0, vR a3 0, vI l4, u5, u6] [] h102) ∧
    (¬ (v101 = v102) →
    ((0 : Int) = 0 ∨ (0 : Int) = 1) ∧ False)))) : zU K 707 [vR a0 147, vR a1 0, vR a2 0, vR a3 0, vI l4, u5, u6] [] h :=
  zwpu_U (cd := c262) rfl [23, 168, 193, 218, 231, 244, 269, 283, 286, 337, 374, 411, 436, 473, 510, 547, 584, 645, 682, 707, 732, 757, 806, 855, 892, 929, 954, 991, 1040, 1053, 1078, 1103, 1128, 1134] 420 707 _ _ _ k
set_option maxRecDepth 100000 in
set_option maxHeartbeats 4000000 in
theorem q732 (a0 : Nat) (a1 : Nat) (a2 : Nat) (a3 : Nat) (l4 : Int) (u5 : zV) (u6 : zV) (h : zH) (K : Nat → List zV → List zV → zH → Prop) (k :
  (inR (l4 + 1)) ∧ (0 ≤ (l4 + 1 : Int)) ∧ ((l4 + 1 : Int) < Int.ofNat (ln h a0)) ∧ (zty 100 a1 h) ∧ zC1 18 [vR a1 100, vI (gI h a0 (l4 + 1))] h (fun v103 h103 =>
  (inR (l4 + 1)) ∧ (0 ≤ (l4 + 1 : Int)) ∧ ((l4 + 1 : Int) < Int.ofNat (ln h103 a0)) ∧ (zty 111 a2 h103) ∧ zC1 222 [vR a2 111, vI (gI h103 a0 (l4 + 1))] h103 (fun v104 h104 =>
  (v103 = v104 →
    zU K 1128 [vR a0 147, vR a1 0, vR a2 0, vR a3 0, vI l4, u5, u6] [] h104) ∧
    (¬ (v103 = v104) →
    ((0 : Int) = 0 ∨ (0 : Int) = 1) ∧ False)))) : zU K 732 [vR a0 147, vR a1 0, vR a2 0, vR a3 0, vI l4, u5, u6] [] h :=
  zwpu_U (cd := c262) rfl [23, 168, 193, 218, 231, 244, 269, 283, 286, 337, 374, 411, 436, 473, 510, 547, 584, 645, 682, 707, 732, 757, 806, 855, 892, 929, 954, 991, 1040, 1053, 1078, 1103, 1128, 1134] 420 732 _ _ _ k
set_option maxRecDepth 100000 in
set_option maxHeartbeats 4000000 in
theorem q757 (a0 : Nat) (a1 : Nat) (a2 : Nat) (a3 : Nat) (l4 : Int) (u5 : zV) (u6 : zV) (h : zH) (K : Nat → List zV → List zV → zH → Prop) (k :
  (inR (l4 + 1)) ∧ (0 ≤ (l4 + 1 : Int)) ∧ ((l4 + 1 : Int) < Int.ofNat (ln h a0)) ∧ (inR (l4 + 2)) ∧ (0 ≤ (l4 + 2 : Int)) ∧ ((l4 + 2 : Int) < Int.ofNat (ln h a0)) ∧ (inR (l4 + 3)) ∧ (0 ≤ (l4 + 3 : Int)) ∧ ((l4 + 3 : Int) < Int.ofNat (ln h a0)) ∧ (zty 100 a1 h) ∧ zC1 19 [vR a1 100, vI (gI h a0 (l4 + 1)), vI (gI h a0 (l4 + 2)), vI (gI h a0 (l4 + 3))] h (fun v105 h105 =>
  (inR (l4 + 1)) ∧ (0 ≤ (l4 + 1 : Int)) ∧ ((l4 + 1 : Int) < Int.ofNat (ln h105 a0)) ∧ (inR (l4 + 2)) ∧ (0 ≤ (l4 + 2 : Int)) ∧ ((l4 + 2 : Int) < Int.ofNat (ln h105 a0)) ∧ (inR (l4 + 3)) ∧ (0 ≤ (l4 + 3 : Int)) ∧ ((l4 + 3 : Int) < Int.ofNat (ln h105 a0)) ∧ (zty 111 a2 h105) ∧ zC1 236 [vR a2 111, vI (gI h105 a0 (l4 + 1)), vI (gI h105 a0 (l4 + 2)), vI (gI h105 a0 (l4 + 3))] h105 (fun v106 h106 =>
  (v105 = v106 →
    zU K 1128 [vR a0 147, vR a1 0, vR a2 0, vR a3 0, vI l4, u5, u6] [] h106) ∧
    (¬ (v105 = v106) →
    ((0 : Int) = 0 ∨ (0 : Int) = 1) ∧ False)))) : zU K 757 [vR a0 147, vR a1 0, vR a2 0, vR a3 0, vI l4, u5, u6] [] h :=
  zwpu_U (cd := c262) rfl [23, 168, 193, 218, 231, 244, 269, 283, 286, 337, 374, 411, 436, 473, 510, 547, 584, 645, 682, 707, 732, 757, 806, 855, 892, 929, 954, 991, 1040, 1053, 1078, 1103, 1128, 1134] 420 757 _ _ _ k
set_option maxRecDepth 100000 in
set_option maxHeartbeats 4000000 in
theorem q806 (a0 : Nat) (a1 : Nat) (a2 : Nat) (a3 : Nat) (l4 : Int) (u5 : zV) (u6 : zV) (h : zH) (K : Nat → List zV → List zV → zH → Prop) (k :
  (inR (l4 + 1)) ∧ (0 ≤ (l4 + 1 : Int)) ∧ ((l4 + 1 : Int) < Int.ofNat (ln h a0)) ∧ (inR (l4 + 2)) ∧ (0 ≤ (l4 + 2 : Int)) ∧ ((l4 + 2 : Int) < Int.ofNat (ln h a0)) ∧ (inR (l4 + 3)) ∧ (0 ≤ (l4 + 3 : Int)) ∧ ((l4 + 3 : Int) < Int.ofNat (ln h a0)) ∧ (zty 100 a1 h) ∧ zC1 20 [vR a1 100, vI (gI h a0 (l4 + 1)), vI (gI h a0 (l4 + 2)), vI (gI h a0 (l4 + 3))] h (fun v107 h107 =>
  (inR (l4 + 1)) ∧ (0 ≤ (l4 + 1 : Int)) ∧ ((l4 + 1 : Int) < Int.ofNat (ln h107 a0)) ∧ (inR (l4 + 2)) ∧ (0 ≤ (l4 + 2 : Int)) ∧ ((l4 + 2 : Int) < Int.ofNat (ln h107 a0)) ∧ (inR (l4 + 3)) ∧ (0 ≤ (l4 + 3 : Int)) ∧ ((l4 + 3 : Int) < Int.ofNat (ln h107 a0)) ∧ (zty 111 a2 h107) ∧ zC1 237 [vR a2 111, vI (gI h107 a0 (l4 + 1)), vI (gI h107 a0 (l4 + 2)), vI (gI h107 a0 (l4 + 3))] h107 (fun v108 h108 =>
  (v107 = v108 →
    zU K 1128 [vR a0 147, vR a1 0, vR a2 0, vR a3 0, vI l4, u5, u6] [] h108) ∧
    (¬ (v107 = v108) →
    ((0 : Int) = 0 ∨ (0 : Int) = 1) ∧ False)))) : zU K 806 [vR a0 147, vR a1 0, vR a2 0, vR a3 0, vI l4, u5, u6] [] h :=
  zwpu_U (cd := c262) rfl [23, 168, 193, 218, 231, 244, 269, 283, 286, 337, 374, 411, 436, 473, 510, 547, 584, 645, 682, 707, 732, 757, 806, 855, 892, 929, 954, 991, 1040, 1053, 1078, 1103, 1128, 1134] 420 806 _ _ _ k
set_option maxRecDepth 100000 in
set_option maxHeartbeats 4000000 in
theorem q855 (a0 : Nat) (a1 : Nat) (a2 : Nat) (a3 : Nat) (l4 : Int) (u5 : zV) (u6 : zV) (h : zH) (K : Nat → List zV → List zV → zH → Prop) (k :
  (inR (l4 + 1)) ∧ (0 ≤ (l4 + 1 : Int)) ∧ ((l4 + 1 : Int) < Int.ofNat (ln h a0)) ∧ (inR (l4 + 2)) ∧ (0 ≤ (l4 + 2 : Int)) ∧ ((l4 + 2 : Int) < Int.ofNat (ln h a0)) ∧ (zty 100 a1 h) ∧ zC1 21 [vR a1 100, vI (gI h a0 (l4 + 1)), vI (gI h a0 (l4 + 2))] h (fun v109 h109 =>
  (inR (l4 + 1)) ∧ (0 ≤ (l4 + 1 : Int)) ∧ ((l4 + 1 : Int) < Int.ofNat (ln h109 a0)) ∧ (inR (l4 + 2)) ∧ (0 ≤ (l4 + 2 : Int)) ∧ ((l4 + 2 : Int) < Int.ofNat (ln h109 a0)) ∧ (zty 111 a2 h109) ∧ zC1 240 [vR a2 111, vI (gI h109 a0 (l4 + 1)), vI (gI h109 a0 (l4 + 2))] h109 (fun v110 h110 =>
  (v109 = v110 →
    zU K 1128 [vR a0 147, vR a1 0, vR a2 0, vR a3 0, vI l4, u5, u6] [] h110) ∧
    (¬ (v109 = v110) →
    ((0 : Int) = 0 ∨ (0 : Int) = 1) ∧ False)))) : zU K 855 [vR a0 147, vR a1 0, vR a2 0, vR a3 0, vI l4, u5, u6] [] h :=
  zwpu_U (cd := c262) rfl [23, 168, 193, 218, 231, 244, 269, 283, 286, 337, 374, 411, 436, 473, 510, 547, 584, 645, 682, 707, 732, 757, 806, 855, 892, 929, 954, 991, 1040, 1053, 1078, 1103, 1128, 1134] 420 855 _ _ _ k
set_option maxRecDepth 100000 in
set_option maxHeartbeats 4000000 in
theorem q892 (a0 : Nat) (a1 : Nat) (a2 : Nat) (a3 : Nat) (l4 : Int) (u5 : zV) (u6 : zV) (h : zH) (K : Nat → List zV → List zV → zH → Prop) (k :
  (inR (l4 + 1)) ∧ (0 ≤ (l4 + 1 : Int)) ∧ ((l4 + 1 : Int) < Int.ofNat (ln h a0)) ∧ (inR (l4 + 2)) ∧ (0 ≤ (l4 + 2 : Int)) ∧ ((l4 + 2 : Int) < Int.ofNat (ln h a0)) ∧ (zty 100 a1 h) ∧ zC1 22 [vR a1 100, vI (gI h a0 (l4 + 1)), vI (gI h a0 (l4 + 2))] h (fun v111 h111 =>
  (inR (l4 + 1)) ∧ (0 ≤ (l4 + 1 : Int)) ∧ ((l4 + 1 : Int) < Int.ofNat (ln h111 a0)) ∧ (inR (l4 + 2)) ∧ (0 ≤ (l4 + 2 : Int)) ∧ ((l4 + 2 : Int) < Int.ofNat (ln h111 a0)) ∧ (zty 111 a2 h111) ∧ zC1 245 [vR a2 111, vI (gI h111 a0 (l4 + 1)), vI (gI h111 a0 (l4 + 2))] h111 (fun v112 h112 =>
  (v111 = v112 →
    zU K 1128 [vR a0 147, vR a1 0, vR a2 0, vR a3 0, vI l4, u5, u6] [] h112) ∧
    (¬ (v111 = v112) →
    ((0 : Int) = 0 ∨ (0 : Int) = 1) ∧ False)))) : zU K 892 [vR a0 147, vR a1 0, vR a2 0, vR a3 0, vI l4, u5, u6] [] h :=
  zwpu_U (cd := c262) rfl [23, 168, 193, 218, 231, 244, 269, 283, 286, 337, 374, 411, 436, 473, 510, 547, 584, 645, 682, 707, 732, 757, 806, 855, 892, 929, 954, 991, 1040, 1053, 1078, 1103, 1128, 1134] 420 892 _ _ _ k
set_option maxRecDepth 100000 in
set_option maxHeartbeats 4000000 in
theorem q929 (a0 : Nat) (a1 : Nat) (a2 : Nat) (a3 : Nat) (l4 : Int) (u5 : zV) (u6 : zV) (h : zH) (K : Nat → List zV → List zV → zH → Prop) (k :
  (inR (l4 + 1)) ∧ (0 ≤ (l4 + 1 : Int)) ∧ ((l4 + 1 : Int) < Int.ofNat (ln h a0)) ∧ (zty 100 a1 h) ∧ zC1 23 [vR a1 100, vI (gI h a0 (l4 + 1))] h (fun v113 h113 =>
  (inR (l4 + 1)) ∧ (0 ≤ (l4 + 1 : Int)) ∧ ((l4 + 1 : Int) < Int.ofNat (ln h113 a0)) ∧ (zty 111 a2 h113) ∧ zC1 246 [vR a2 111, vI (gI h113 a0 (l4 + 1))] h113 (fun v114 h114 =>
  (v113 = v114 →
    zU K 1128 [vR a0 147, vR a1 0, vR a2 0, vR a3 0, vI l4, u5, u6] [] h114) ∧
    (¬ (v113 = v114) →
    ((0 : Int) = 0 ∨ (0 : Int) = 1) ∧ False)))) : zU K 929 [vR a0 147, vR a1 0, vR a2 0, vR a3 0, vI l4, u5, u6] [] h :=
  zwpu_U (cd := c262) rfl [23, 168, 193, 218, 231, 244, 269, 283, 286, 337, 374, 411, 436, 473, 510, 547, 584, 645, 682, 707, 732, 757, 806, 855, 892, 929, 954, 991, 1040, 1053, 1078, 1103, 1128, 1134] 420 929 _ _ _ k
set_option maxRecDepth 100000 in
set_option maxHeartbeats 4000000 in
theorem q954 (a0 : Nat) (a1 : Nat) (a2 : Nat) (a3 : Nat) (l4 : Int) (u5 : zV) (u6 : zV) (h : zH) (K : Nat → List zV → List zV → zH → Prop) (k :
  (inR (l4 + 1)) ∧ (0 ≤ (l4 + 1 : Int)) ∧ ((l4 + 1 : Int) < Int.ofNat (ln h a0)) ∧ (inR (l4 + 2)) ∧ (0 ≤ (l4 + 2 : Int)) ∧ ((l4 + 2 : Int) < Int.ofNat (ln h a0)) ∧ (zty 100 a1 h) ∧ zC1 24 [vR a1 100, vI (gI h a0 (l4 + 1)), vI (gI h a0 (l4 + 2))] h (fun v115 h115 =>
  (inR (l4 + 1)) ∧ (0 ≤ (l4 + 1 : Int)) ∧ ((l4 + 1 : Int) < Int.ofNat (ln h115 a0)) ∧ (inR (l4 + 2)) ∧ (0 ≤ (l4 + 2 : Int)) ∧ ((l4 + 2 : Int) < Int.ofNat (ln h115 a0)) ∧ (zty 111 a2 h115) ∧ zC1 250 [vR a2 111, vI (gI h115 a0 (l4 + 1)), vI (gI h115 a0 (l4 + 2))] h115 (fun v116 h116 =>
  (v115 = v116 →
    zU K 1128 [vR a0 147, vR a1 0, vR a2 0, vR a3 0, vI l4, u5, u6] [] h116) ∧
    (¬ (v115 = v116) →
    ((0 : Int) = 0 ∨ (0 : Int) = 1) ∧ False)))) : zU K 954 [vR a0 147, vR a1 0, vR a2 0, vR a3 0, vI l4, u5, u6] [] h :=
  zwpu_U (cd := c262) rfl [23, 168, 193, 218, 231, 244, 269, 283, 286, 337, 374, 411, 436, 473, 510, 547, 584, 645, 682, 707, 732, 757, 806, 855, 892, 929, 954, 991, 1040, 1053, 1078, 1103, 1128, 1134] 420 954 _ _ _ k
set_option maxRecDepth 100000 in
set_option maxHeartbeats 4000000 in
theorem q991 (a0 : Nat) (a1 : Nat) (a2 : Nat) (a3 : Nat) (l4 : Int) (u5 : zV) (u6 : zV) (h : zH) (K : Nat → List zV → List zV → zH → Prop) (k :
  (inR (l4 + 1)) ∧ (0 ≤ (l4 + 1 : Int)) ∧ ((l4 + 1 : Int) < Int.ofNat (ln h a0)) ∧ (inR (l4 + 2)) ∧ (0 ≤ (l4 + 2 : Int)) ∧ ((l4 + 2 : Int) < Int.ofNat (ln h a0)) ∧ (inR (l4 + 3)) ∧ (0 ≤ (l4 + 3 : Int)) ∧ ((l4 + 3 : Int) < Int.ofNat (ln h a0)) ∧ (zty 100 a1 h) ∧ zC1 25 [vR a1 100, vI (gI h a0 (l4 + 1)), vI (gI h a0 (l4 + 2)), vI (gI h a0 (l4 + 3))] h (fun v117 h117 =>
  (inR (l4 + 1)) ∧ (0 ≤ (l4 + 1 : Int)) ∧ ((l4 + 1 : Int) < Int.ofNat (ln h117 a0)) ∧ (inR (l4 + 2)) ∧ (0 ≤ (l4 + 2 : Int)) ∧ ((l4 + 2 : Int) < Int.ofNat (ln h117 a0)) ∧ (inR (l4 + 3)) ∧ (0 ≤ (l4 + 3 : Int)) ∧ ((l4 + 3 : Int) < Int.ofNat (ln h117 a0)) ∧ (zty 111 a2 h117) ∧ zC1 251 [vR a2 111, vI (gI h117 a0 (l4 + 1)), vI (gI h117 a0 (l4 + 2)), vI (gI h117 a0 (l4 + 3))] h117 (fun v118 h118 =>
  (v117 = v118 →
    zU K 1128 [vR a0 147, vR a1 0, vR a2 0, vR a3 0, vI l4, u5, u6] [] h118) ∧
    (¬ (v117 = v118) →
    ((0 : Int) = 0 ∨ (0 : Int) = 1) ∧ False)))) : zU K 991 [vR a0 147, vR a1 0, vR a2 0, vR a3 0, vI l4, u5, u6] [] h :=
  zwpu_U (cd := c262) rfl [23, 168, 193, 218, 231, 244, 269, 283, 286, 337, 374, 411, 436, 473, 510, 547, 584, 645, 682, 707, 732, 757, 806, 855, 892, 929, 954, 991, 1040, 1053, 1078, 1103, 1128, 1134] 420 991 _ _ _ k
set_option maxRecDepth 100000 in
set_option maxHeartbeats 4000000 in
theorem q1040 (a0 : Nat) (a1 : Nat) (a2 : Nat) (a3 : Nat) (l4 : Int) (u5 : zV) (u6 : zV) (h : zH) (K : Nat → List zV → List zV → zH → Prop) (k :
  (zty 100 a1 h) ∧ zC1 26 [vR a1 100] h (fun v119 h119 =>
  (zty 111 a2 h119) ∧ zC1 252 [vR a2 111] h119 (fun v120 h120 =>
  (v119 = v120 →
    zU K 1128 [vR a0 147, vR a1 0, vR a2 0, vR a3 0, vI l4, u5, u6] [] h120) ∧
    (¬ (v119 = v120) →
    ((0 : Int) = 0 ∨ (0 : Int) = 1) ∧ False)))) : zU K 1040 [vR a0 147, vR a1 0, vR a2 0, vR a3 0, vI l4, u5, u6] [] h :=
  zwpu_U (cd := c262) rfl [23, 168, 193, 218, 231, 244, 269, 283, 286, 337, 374, 411, 436, 473, 510, 547, 584, 645, 682, 707, 732, 757, 806, 855, 892, 929, 954, 991, 1040, 1053, 1078, 1103, 1128, 1134] 420 1040 _ _ _ k
set_option maxRecDepth 100000 in
set_option maxHeartbeats 4000000 in
theorem q1053 (a0 : Nat) (a1 : Nat) (a2 : Nat) (a3 : Nat) (l4 : Int) (u5 : zV) (u6 : zV) (h : zH) (K : Nat → List zV → List zV → zH → Prop) (k :
  (inR (l4 + 1)) ∧ (0 ≤ (l4 + 1 : Int)) ∧ ((l4 + 1 : Int) < Int.ofNat (ln h a0)) ∧ (zty 100 a1 h) ∧ zC1 27 [vR a1 100, vI (gI h a0 (l4 + 1))] h (fun v121 h121 =>
  (inR (l4 + 1)) ∧ (0 ≤ (l4 + 1 : Int)) ∧ ((l4 + 1 : Int) < Int.ofNat (ln h121 a0)) ∧ (zty 111 a2 h121) ∧ zC1 253 [vR a2 111, vI (gI h121 a0 (l4 + 1))] h121 (fun v122 h122 =>
  (v121 = v122 →
    zU K 1128 [vR a0 147, vR a1 0, vR a2 0, vR a3 0, vI l4, u5, u6] [] h122) ∧
    (¬ (v121 = v122) →
    ((0 : Int) = 0 ∨ (0 : Int) = 1) ∧ False)))) : zU K 1053 [vR a0 147, vR a1 0, vR a2 0, vR a3 0, vI l4, u5, u6] [] h :=
  zwpu_U (cd := c262) rfl [23, 168, 193, 218, 231, 244, 269, 283, 286, 337, 374, 411, 436, 473, 510, 547, 584, 645, 682, 707, 732, 757, 806, 855, 892, 929, 954, 991, 1040, 1053, 1078, 1103, 1128, 1134] 420 1053 _ _ _ k
set_option maxRecDepth 100000 in
set_option maxHeartbeats 4000000 in
theorem q1078 (a0 : Nat) (a1 : Nat) (a2 : Nat) (a3 : Nat) (l4 : Int) (u5 : zV) (u6 : zV) (h : zH) (K : Nat → List zV → List zV → zH → Prop) (k :
  (inR (l4 + 1)) ∧ (0 ≤ (l4 + 1 : Int)) ∧ ((l4 + 1 : Int) < Int.ofNat (ln h a0)) ∧ (zty 100 a1 h) ∧ zC1 28 [vR a1 100, vI (gI h a0 (l4 + 1))] h (fun v123 h123 =>
  (inR (l4 + 1)) ∧ (0 ≤ (l4 + 1 : Int)) ∧ ((l4 + 1 : Int) < Int.ofNat (ln h123 a0)) ∧ (zty 111 a2 h123) ∧ zC1 254 [vR a2 111, vI (gI h123 a0 (l4 + 1))] h123 (fun v124 h124 =>
  (v123 = v124 →
    zU K 1128 [vR a0 147, vR a1 0, vR a2 0, vR a3 0, vI l4, u5, u6] [] h124) ∧
    (¬ (v123 = v124) →
    ((0 : Int) = 0 ∨ (0 : Int) = 1) ∧ False)))) : zU K 1078 [vR a0 147, vR a1 0, vR a2 0, vR a3 0, vI l4, u5, u6] [] h :=
  zwpu_U (cd := c262) rfl [23, 168, 193, 218, 231, 244, 269, 283, 286, 337, 374, 411, 436, 473, 510, 547, 584, 645, 682, 707, 732, 757, 806, 855, 892, 929, 954, 991, 1040, 1053, 1078, 1103, 1128, 1134] 420 1078 _ _ _ k
set_option maxRecDepth 100000 in
set_option maxHeartbeats 4000000 in
theorem q1103 (a0 : Nat) (a1 : Nat) (a2 : Nat) (a3 : Nat) (l4 : Int) (u5 : zV) (u6 : zV) (h : zH) (K : Nat → List zV → List zV → zH → Prop) (k :
  (inR (l4 + 1)) ∧ (0 ≤ (l4 + 1 : Int)) ∧ ((l4 + 1 : Int) < Int.ofNat (ln h a0)) ∧ (zty 100 a1 h) ∧ zC1 29 [vR a1 100, vI (gI h a0 (l4 + 1))] h (fun v125 h125 =>
  (inR (l4 + 1)) ∧ (0 ≤ (l4 + 1 : Int)) ∧ ((l4 + 1 : Int) < Int.ofNat (ln h125 a0)) ∧ (zty 111 a2 h125) ∧ zC1 256 [vR a2 111, vI (gI h125 a0 (l4 + 1))] h125 (fun v126 h126 =>
  (v125 = v126 →
    zU K 1128 [vR a0 147, vR a1 0, vR a2 0, vR a3 0, vI l4, u5, u6] [] h126) ∧
    (¬ (v125 = v126) →
    ((0 : Int) = 0 ∨ (0 : Int) = 1) ∧ False)))) : zU K 1103 [vR a0 147, vR a1 0, vR a2 0, vR a3 0, vI l4, u5, u6] [] h :=
  zwpu_U (cd := c262) rfl [23, 168, 193, 218, 231, 244, 269, 283, 286, 337, 374, 411, 436, 473, 510, 547, 584, 645, 682, 707, 732, 757, 806, 855, 892, 929, 954, 991, 1040, 1053, 1078, 1103, 1128, 1134] 420 1103 _ _ _ k
set_option maxRecDepth 100000 in
set_option maxHeartbeats 4000000 in
theorem q1128 (a0 : Nat) (a1 : Nat) (a2 : Nat) (a3 : Nat) (l4 : Int) (u5 : zV) (u6 : zV) (h : zH) (K : Nat → List zV → List zV → zH → Prop) (k :
  (inR (l4 + 5)) ∧ zU K 23 [vR a0 147, vR a1 0, vR a2 0, vR a3 0, vI (l4 + 5), u5, u6] [] h) : zU K 1128 [vR a0 147, vR a1 0, vR a2 0, vR a3 0, vI l4, u5, u6] [] h :=
  zwpu_U (cd := c262) rfl [23, 168, 193, 218, 231, 244, 269, 283, 286, 337, 374, 411, 436, 473, 510, 547, 584, 645, 682, 707, 732, 757, 806, 855, 892, 929, 954, 991, 1040, 1053, 1078, 1103, 1128, 1134] 420 1128 _ _ _ k
set_option maxRecDepth 100000 in
set_option maxHeartbeats 4000000 in
theorem q6 (p1 : Int) (p2 : Int) (h : zH) (K : Nat → List zV → List zV → zH → Prop) (k :
  zC1 30 [vR 2 100, vI p1] h (fun v2 h2 =>
  (¬ v2 = 0 →
    zUy 6 8 K 16 [vR 2 100, vI p1, vI p2] [] h2) ∧
    (¬ (¬ v2 = 0) →
    zUy 6 8 K 8 [vR 2 100, vI p1, vI p2] [] h2))) : zUy 6 8 K 0 [vR 2 100, vI p1, vI p2] [] h :=
  zwpu_U (cd := c6) rfl [8, 16] 60 0 _ _ _ k
