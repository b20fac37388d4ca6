/-! The machine's runs over a program, and what a run comes to. -/
/-- the program's code: by method; each method's number of locals -/
noncomputable def zrun (P : Nat → List zE) (L : Nat → Nat) : Nat → Nat → Nat → List zV → List zV → zH → Option (Option zV × zH)
  | 0, _, _, _, _, _ => none
  | n + 1, y, pc, ls, st, h => match zfind pc (P y) with
    | none => none
    | some (len, E, ops) => @ite _ (zg (zstp E ops pc len ls st h).1 True) (Classical.propDecidable _)
      (match (zstp E ops pc len ls st h).2 with
      | none => none
      | some (.inl (_, brs, d, ls1, st1, h1)) => zrun P L n y (zch brs d) ls1 st1 h1
      | some (.inr (.inl q)) => some q
      | some (.inr (.inr (y1, _, args, rest, pc1))) => match zrun P L n y1 0 (zpad (L y1) (zents args)) [] h with
        | none => none
        | some (r, h1) => zrun P L n y pc1 ls (r.toList ++ rest) h1) none
/-- it comes to an end with Q -/
def zW (P : Nat → List zE) (L : Nat → Nat) (y pc : Nat) (ls st : List zV) (h : zH) (Q : Option zV → zH → Prop) : Prop :=
  ∃ n q, zrun P L n y pc ls st h = some q ∧ Q q.1 q.2
def zM (P : Nat → List zE) (L : Nat → Nat) (y : Nat) (args : List zV) (h : zH) (Q : Option zV → zH → Prop) : Prop := zW P L y 0 (zpad (L y) (zents args)) [] h Q
/-- a call by what comes back: nothing, an int, a reference of a type -/
def zcall (P : Nat → List zE) (L : Nat → Nat) (y k : Nat) (args : List zV) (h : zH) (K : List zV → zH → Prop) : Prop := match k with
  | 0 => zM P L y args h (fun r h1 => r = none ∧ K [] h1)
  | 1 => zM P L y args h (fun r h1 => ∃ v : Int, r = some (.inl v) ∧ K [.inl v] h1)
  | k + 2 => zM P L y args h (fun r h1 => ∃ x : Nat, r = some (.inr (.inl (x, k))) ∧ K [.inr (.inl (x, k))] h1)
section ZW
variable {P : Nat → List zE} {L : Nat → Nat}
theorem zg_iff {l : List Prop} {A : Prop} : zg l A ↔ zg l True ∧ A := by
  induction l with
  | nil => simp [zg]
  | cons a r ih => simp only [zg]; rw [ih]; constructor
                   · rintro ⟨a, b, c⟩; exact ⟨⟨a, b⟩, c⟩
                   · rintro ⟨⟨a, b⟩, c⟩; exact ⟨a, b, c⟩
theorem zbr_iff {l : List (Prop × Nat)} {d : Nat} {K : Nat → Prop} : zbr l d K ↔ K (zch l d) := by
  induction l with
  | nil => rfl
  | cons a r ih =>
    simp only [zbr, zch]
    by_cases h : a.1
    · rw [if_pos h]; exact ⟨fun q => q.1 h, fun q => ⟨fun _ => q, fun n => absurd h n⟩⟩
    · rw [if_neg h, ← ih]; exact ⟨fun q => q.2 h, fun q => ⟨fun n => absurd n h, fun _ => q⟩⟩
theorem zrun_succ {n y pc : Nat} {ls st : List zV} {h : zH} : zrun P L (n + 1) y pc ls st h = (match zfind pc (P y) with
    | none => none
    | some (len, E, ops) => @ite _ (zg (zstp E ops pc len ls st h).1 True) (Classical.propDecidable _)
      (match (zstp E ops pc len ls st h).2 with
      | none => none
      | some (.inl (_, brs, d, ls1, st1, h1)) => zrun P L n y (zch brs d) ls1 st1 h1
      | some (.inr (.inl q)) => some q
      | some (.inr (.inr (y1, _, args, rest, pc1))) => match zrun P L n y1 0 (zpad (L y1) (zents args)) [] h with
        | none => none
        | some (r, h1) => zrun P L n y pc1 ls (r.toList ++ rest) h1) none) := by
  rw [zrun]
theorem zrun_mono : ∀ {n y pc : Nat} {ls st : List zV} {h : zH} {q : Option zV × zH}, zrun P L n y pc ls st h = some q → zrun P L (n + 1) y pc ls st h = some q := by
  intro n
  induction n with
  | zero => intro y pc ls st h q e; simp [zrun] at e
  | succ n ih =>
    intro y pc ls st h q e
    rw [zrun_succ] at e ⊢
    cases hf : zfind pc (P y) with
    | none => rw [hf] at e; cases e
    | some w =>
      obtain ⟨len, E, ops⟩ := w
      rw [hf] at e
      dsimp only at e ⊢
      by_cases hg : zg (zstp E ops pc len ls st h).1 True
      · rw [if_pos hg] at e ⊢
        revert e
        rcases (zstp E ops pc len ls st h).2 with _ | ⟨wf, brs, d, ls1, st1, h1⟩ | q1 | ⟨y1, k, args, rest, pc1⟩
        · exact fun e => e
        · exact fun e => ih e
        · exact fun e => e
        · dsimp only
          cases hc : zrun P L n y1 0 (zpad (L y1) (zents args)) [] h with
          | none => intro e; cases e
          | some r => rw [ih hc]; exact fun e => ih e
      · rw [if_neg hg] at e; cases e
theorem zrun_le {n m y pc : Nat} {ls st : List zV} {h : zH} {q : Option zV × zH} (hm : n ≤ m) (e : zrun P L n y pc ls st h = some q) : zrun P L m y pc ls st h = some q := by
  induction hm with
  | refl => exact e
  | step _ ih => exact zrun_mono ih
theorem zW_mono {y pc : Nat} {ls st : List zV} {h : zH} {Q Q' : Option zV → zH → Prop} (k : zW P L y pc ls st h Q) (hq : ∀ r h1, Q r h1 → Q' r h1) : zW P L y pc ls st h Q' := by
  obtain ⟨n, q, a, b⟩ := k
  exact ⟨n, q, a, hq _ _ b⟩
/-- what an instruction asks -/
def zwp (P : Nat → List zE) (L : Nat → Nat) (s : zS) (ls : List zV) (h : zH) (K : Nat → List zV → List zV → zH → Prop) (Q : Option zV → zH → Prop) : Prop := zg s.1 (match s.2 with
  | none => False
  | some (.inl (true, brs, d, ls1, st1, h1)) => ∀ h2 : zH, h2 = h1 → zbr brs d (fun pc1 => K pc1 ls1 st1 h2)
  | some (.inl (false, brs, d, ls1, st1, h1)) => zbr brs d (fun pc1 => K pc1 ls1 st1 h1)
  | some (.inr (.inl q)) => Q q.1 q.2
  | some (.inr (.inr (y1, k, args, rest, pc1))) => zcall P L y1 k args h (fun vs h1 => K pc1 ls (vs ++ rest) h1))
theorem zcall_sub {y k : Nat} {args : List zV} {h : zH} {K : List zV → zH → Prop} (c : zcall P L y k args h K) : zM P L y args h (fun r h1 => K r.toList h1) := by
  match k, c with
  | 0, c => obtain ⟨n, q, a, b⟩ := c; exact ⟨n, q, a, by rw [b.1]; exact b.2⟩
  | 1, c => obtain ⟨n, q, a, v, b⟩ := c; exact ⟨n, q, a, by rw [b.1]; exact b.2⟩
  | k + 2, c => obtain ⟨n, q, a, v, b⟩ := c; exact ⟨n, q, a, by rw [b.1]; exact b.2⟩
/-- an instruction that is met, then what follows -/
theorem zW_step {y pc len : Nat} {E : Instr} {ops : List Nat} {ls st : List zV} {h : zH} {Q : Option zV → zH → Prop} (hf : zfind pc (P y) = some (len, E, ops))
    (k : zwp P L (zstp E ops pc len ls st h) ls h (fun pc1 ls1 st1 h1 => zW P L y pc1 ls1 st1 h1 Q) Q) : zW P L y pc ls st h Q := by
  unfold zwp at k
  rw [zg_iff] at k
  obtain ⟨hg, k⟩ := k
  revert k
  rcases hs : (zstp E ops pc len ls st h).2 with _ | ⟨wf, brs, d, ls1, st1, h1⟩ | q1 | ⟨y1, k1, args, rest, pc1⟩
  · exact fun k => k.elim
  · intro k
    have k : zbr brs d (fun pc1 => zW P L y pc1 ls1 st1 h1 Q) := by
      cases wf with
      | true => exact k h1 rfl
      | false => exact k
    obtain ⟨n, q, a, b⟩ := zbr_iff.mp k
    refine ⟨n + 1, q, ?_, b⟩
    rw [zrun_succ, hf]; dsimp only; rw [if_pos hg, hs]; exact a
  · intro k
    refine ⟨1, q1, ?_, k⟩
    rw [zrun_succ, hf]; dsimp only; rw [if_pos hg, hs]
  · intro k
    obtain ⟨n, q, a, ⟨m, q2, a2, b2⟩⟩ := zcall_sub k
    refine ⟨n + m + 1, q2, ?_, b2⟩
    rw [zrun_succ, hf]; dsimp only; rw [if_pos hg, hs]; dsimp only
    rw [zrun_le (Nat.le_add_right n m) a]
    exact zrun_le (Nat.le_add_left m n) a2
/-- many instructions, up to the places that are named -/
def zwpe (P : Nat → List zE) (L : Nat → Nat) (cd : List zE) (y : Nat) (cuts : List Nat) : Nat → Nat → List zV → List zV → zH → (Option zV → zH → Prop) → Prop
  | 0, pc, ls, st, h, Q => zW P L y pc ls st h Q
  | n + 1, pc, ls, st, h, Q => match zfind pc cd with
    | none => False
    | some (len, E, ops) => zwp P L (zstp E ops pc len ls st h) ls h (fun pc1 ls1 st1 h1 => bif cuts.elem pc1 then zW P L y pc1 ls1 st1 h1 Q else zwpe P L cd y cuts n pc1 ls1 st1 h1 Q) Q
theorem zbr_mono {l : List (Prop × Nat)} {d : Nat} {K K' : Nat → Prop} (hk : ∀ n, K n → K' n) (k : zbr l d K) : zbr l d K' := zbr_iff.mpr (hk _ (zbr_iff.mp k))
theorem zcall_mono {y k : Nat} {args : List zV} {h : zH} {K K' : List zV → zH → Prop} (hk : ∀ vs h1, K vs h1 → K' vs h1) (c : zcall P L y k args h K) : zcall P L y k args h K' := by
  match k, c with
  | 0, c => obtain ⟨n, q, a, b⟩ := c; exact ⟨n, q, a, b.1, hk _ _ b.2⟩
  | 1, c => obtain ⟨n, q, a, v, b⟩ := c; exact ⟨n, q, a, v, b.1, hk _ _ b.2⟩
  | k + 2, c => obtain ⟨n, q, a, v, b⟩ := c; exact ⟨n, q, a, v, b.1, hk _ _ b.2⟩
theorem zwp_mono {s : zS} {ls : List zV} {h : zH} {K K' : Nat → List zV → List zV → zH → Prop} {Q : Option zV → zH → Prop} (hk : ∀ a b c d, K a b c d → K' a b c d) (k : zwp P L s ls h K Q) : zwp P L s ls h K' Q := by
  unfold zwp at k ⊢
  rw [zg_iff] at k ⊢
  refine ⟨k.1, ?_⟩
  have k := k.2
  revert k
  rcases s.2 with _ | ⟨wf, brs, d, ls1, st1, h1⟩ | q1 | ⟨y1, k1, args, rest, pc1⟩
  · exact id
  · cases wf with
    | true => exact fun k h2 e => zbr_mono (fun n => hk _ _ _ _) (k h2 e)
    | false => exact zbr_mono (fun n => hk _ _ _ _)
  · exact id
  · exact zcall_mono (fun vs h1 => hk _ _ _ _)
theorem zwpe_W {cd : List zE} {y : Nat} (hc : P y = cd) (cuts : List Nat) : ∀ (n pc : Nat) (ls st : List zV) (h : zH) (Q : Option zV → zH → Prop), zwpe P L cd y cuts n pc ls st h Q → zW P L y pc ls st h Q := by
  subst hc
  intro n
  induction n with
  | zero => intro pc ls st h Q k; exact k
  | succ n ih =>
    intro pc ls st h Q k
    unfold zwpe at k
    cases hf : zfind pc (P y) with
    | none => rw [hf] at k; exact k.elim
    | some w =>
      obtain ⟨len, E, ops⟩ := w
      rw [hf] at k
      refine zW_step hf (zwp_mono (fun a b c d q => ?_) k)
      revert q
      cases cuts.elem a with
      | true => exact id
      | false => exact ih _ _ _ _ _
end ZW
