/-! what is not known of the locals does not matter -/
def zLe : List zV → List zV → Prop
  | [], [] => True
  | a :: t, b :: u => (a = (9, 0) ∨ a = b) ∧ zLe t u
  | _, _ => False
theorem zLe.rfl' : ∀ L : List zV, zLe L L
  | [] => trivial
  | _ :: t => ⟨Or.inr rfl, zLe.rfl' t⟩
theorem zLe.get {L : List zV} : ∀ {L2 : List zV}, zLe L L2 → ∀ i, zG L i = (9, 0) ∨ zG L i = zG L2 i := by
  induction L with
  | nil => intro L2 h i; exact Or.inl (by unfold zG; simp)
  | cons a t ih =>
    intro L2 h i
    match L2, h with
    | b :: u, h =>
      cases i with
      | zero => exact h.1
      | succ j => exact ih h.2 j
theorem zLe.len {L : List zV} : ∀ {L2 : List zV}, zLe L L2 → L2.length = L.length := by
  induction L with
  | nil => intro L2 h; match L2, h with
    | [], _ => rfl
  | cons a t ih =>
    intro L2 h
    match L2, h with
    | b :: u, h => rw [List.length_cons, List.length_cons, ih h.2]
theorem zLe.set {L : List zV} : ∀ {L2 : List zV}, zLe L L2 → ∀ i v, zLe (L.set i v) (L2.set i v) := by
  induction L with
  | nil => intro L2 h i v; match L2, h with
    | [], _ => trivial
  | cons a t ih =>
    intro L2 h i v
    match L2, h with
    | b :: u, h =>
      cases i with
      | zero => exact ⟨Or.inr rfl, h.2⟩
      | succ j => exact ⟨h.1, ih h.2 j v⟩
theorem zLe.set9 {L : List zV} : ∀ {L2 : List zV}, zLe L L2 → ∀ i, zG L i = (9, 0) → zLe L (L2.set i (9, 0)) := by
  induction L with
  | nil => intro L2 h i _; match L2, h with
    | [], _ => trivial
  | cons a t ih =>
    intro L2 h i hg
    match L2, h with
    | b :: u, h =>
      cases i with
      | zero => exact ⟨Or.inl hg, h.2⟩
      | succ j => exact ⟨h.1, ih h.2 j hg⟩
theorem zLe.put {L L2 : List zV} (h : zLe L L2) (i : Nat) (v : zV) : zLe (zPut L i v) (zPut L2 i v) := by
  unfold zPut
  cases i with
  | zero => exact h.set 0 v
  | succ j =>
    dsimp only
    rcases h.get j with hg | hg
    · rw [hg, if_neg (by decide)]
      split
      · exact (h.set9 j hg).set _ _
      · exact h.set _ _
    · rw [← hg]
      split
      · exact (h.set _ _).set _ _
      · exact h.set _ _
section ZLS
variable {L L2 L1 S S1 : List zV} {m m1 : zM} {q p a1 a2 : Nat}
theorem zl_i2 {g : Int32 → Int32 → Int32} (h : zo_i2 g q L S m = some (p, L1, S1, m1)) : L1 = L ∧ zo_i2 g q L2 S m = some (p, L2, S1, m1) := by
  unfold zo_i2 at h ⊢
  split at h
  · cases h; exact ⟨rfl, rfl⟩
  · cases h
theorem zl_i2z {g : Int32 → Int32 → Int32} (h : zo_i2z g q L S m = some (p, L1, S1, m1)) : L1 = L ∧ zo_i2z g q L2 S m = some (p, L2, S1, m1) := by
  unfold zo_i2z at h ⊢
  split at h
  · split at h
    · cases h
    · next hc => cases h; exact ⟨rfl, if_neg hc⟩
  · cases h
theorem zl_l2 {g : Int64 → Int64 → Int64} (h : zo_l2 g q L S m = some (p, L1, S1, m1)) : L1 = L ∧ zo_l2 g q L2 S m = some (p, L2, S1, m1) := by
  unfold zo_l2 at h ⊢
  split at h
  · cases h; exact ⟨rfl, rfl⟩
  · cases h
theorem zl_l2z {g : Int64 → Int64 → Int64} (h : zo_l2z g q L S m = some (p, L1, S1, m1)) : L1 = L ∧ zo_l2z g q L2 S m = some (p, L2, S1, m1) := by
  unfold zo_l2z at h ⊢
  split at h
  · split at h
    · cases h
    · next hc => cases h; exact ⟨rfl, if_neg hc⟩
  · cases h
theorem zl_li {g : Int64 → Int32 → Int64} (h : zo_li g q L S m = some (p, L1, S1, m1)) : L1 = L ∧ zo_li g q L2 S m = some (p, L2, S1, m1) := by
  unfold zo_li at h ⊢
  split at h
  · cases h; exact ⟨rfl, rfl⟩
  · cases h
theorem zl_i2l (h : zo_i2l q L S m = some (p, L1, S1, m1)) : L1 = L ∧ zo_i2l q L2 S m = some (p, L2, S1, m1) := by
  unfold zo_i2l at h ⊢
  split at h
  · cases h; exact ⟨rfl, rfl⟩
  · cases h
theorem zl_l2i (h : zo_l2i q L S m = some (p, L1, S1, m1)) : L1 = L ∧ zo_l2i q L2 S m = some (p, L2, S1, m1) := by
  unfold zo_l2i at h ⊢
  split at h
  · cases h; exact ⟨rfl, rfl⟩
  · cases h
theorem zl_ineg (h : zo_ineg q L S m = some (p, L1, S1, m1)) : L1 = L ∧ zo_ineg q L2 S m = some (p, L2, S1, m1) := by
  unfold zo_ineg at h ⊢
  split at h
  · cases h; exact ⟨rfl, rfl⟩
  · cases h
theorem zl_lneg (h : zo_lneg q L S m = some (p, L1, S1, m1)) : L1 = L ∧ zo_lneg q L2 S m = some (p, L2, S1, m1) := by
  unfold zo_lneg at h ⊢
  split at h
  · cases h; exact ⟨rfl, rfl⟩
  · cases h
theorem zl_lcmp (h : zo_lcmp q L S m = some (p, L1, S1, m1)) : L1 = L ∧ zo_lcmp q L2 S m = some (p, L2, S1, m1) := by
  unfold zo_lcmp at h ⊢
  split at h
  · cases h; exact ⟨rfl, rfl⟩
  · cases h
theorem zl_ifC (h : zo_ifC q a1 a2 L S m = some (p, L1, S1, m1)) : L1 = L ∧ zo_ifC q a1 a2 L2 S m = some (p, L2, S1, m1) := by
  unfold zo_ifC at h ⊢
  split at h
  · split at h
    · next hc => cases h; exact ⟨rfl, if_pos hc⟩
    · cases h
  · cases h
theorem zl_icmp (h : zo_icmp q a1 a2 L S m = some (p, L1, S1, m1)) : L1 = L ∧ zo_icmp q a1 a2 L2 S m = some (p, L2, S1, m1) := by
  unfold zo_icmp at h ⊢
  split at h
  · split at h
    · next hc => cases h; exact ⟨rfl, if_pos hc⟩
    · cases h
  · cases h
theorem zl_dup (h : zo_dup q L S m = some (p, L1, S1, m1)) : L1 = L ∧ zo_dup q L2 S m = some (p, L2, S1, m1) := by
  unfold zo_dup at h ⊢
  split at h
  · split at h
    · next hc => cases h; exact ⟨rfl, if_pos hc⟩
    · cases h
  · cases h
theorem zl_dup_x1 (h : zo_dup_x1 q L S m = some (p, L1, S1, m1)) : L1 = L ∧ zo_dup_x1 q L2 S m = some (p, L2, S1, m1) := by
  unfold zo_dup_x1 at h ⊢
  split at h
  · split at h
    · next hc => cases h; exact ⟨rfl, if_pos hc⟩
    · cases h
  · cases h
theorem zl_dup2 (h : zo_dup2 q L S m = some (p, L1, S1, m1)) : L1 = L ∧ zo_dup2 q L2 S m = some (p, L2, S1, m1) := by
  unfold zo_dup2 at h ⊢
  split at h
  · split at h
    · next hc => cases h; exact ⟨rfl, if_pos hc⟩
    · cases h
  · cases h
theorem zl_iald (h : zo_iald q L S m = some (p, L1, S1, m1)) : L1 = L ∧ zo_iald q L2 S m = some (p, L2, S1, m1) := by
  unfold zo_iald at h ⊢
  split at h
  · split at h
    · next hc => cases h; exact ⟨rfl, if_pos hc⟩
    · cases h
  · cases h
theorem zl_iast (h : zo_iast q L S m = some (p, L1, S1, m1)) : L1 = L ∧ zo_iast q L2 S m = some (p, L2, S1, m1) := by
  unfold zo_iast at h ⊢
  split at h
  · split at h
    · next hc => cases h; exact ⟨rfl, if_pos hc⟩
    · cases h
  · cases h
theorem zl_lald (h : zo_lald q L S m = some (p, L1, S1, m1)) : L1 = L ∧ zo_lald q L2 S m = some (p, L2, S1, m1) := by
  unfold zo_lald at h ⊢
  split at h
  · split at h
    · next hc => cases h; exact ⟨rfl, if_pos hc⟩
    · cases h
  · cases h
theorem zl_last (h : zo_last q L S m = some (p, L1, S1, m1)) : L1 = L ∧ zo_last q L2 S m = some (p, L2, S1, m1) := by
  unfold zo_last at h ⊢
  split at h
  · split at h
    · next hc => cases h; exact ⟨rfl, if_pos hc⟩
    · cases h
  · cases h
theorem zl_bald (h : zo_bald q L S m = some (p, L1, S1, m1)) : L1 = L ∧ zo_bald q L2 S m = some (p, L2, S1, m1) := by
  unfold zo_bald at h ⊢
  split at h
  · split at h
    · next hc => cases h; exact ⟨rfl, if_pos hc⟩
    · cases h
  · cases h
theorem zl_bast (h : zo_bast q L S m = some (p, L1, S1, m1)) : L1 = L ∧ zo_bast q L2 S m = some (p, L2, S1, m1) := by
  unfold zo_bast at h ⊢
  split at h
  · split at h
    · next hc => cases h; exact ⟨rfl, if_pos hc⟩
    · cases h
  · cases h
theorem zl_aald (h : zo_aald q L S m = some (p, L1, S1, m1)) : L1 = L ∧ zo_aald q L2 S m = some (p, L2, S1, m1) := by
  unfold zo_aald at h ⊢
  split at h
  · split at h
    · next hc => cases h; exact ⟨rfl, if_pos hc⟩
    · cases h
  · cases h
theorem zl_pop (h : zo_pop q L S m = some (p, L1, S1, m1)) : L1 = L ∧ zo_pop q L2 S m = some (p, L2, S1, m1) := by
  unfold zo_pop at h ⊢
  split at h
  · split at h
    · next hc => cases h; exact ⟨rfl, if_pos hc⟩
    · cases h
  · cases h
theorem zl_pop2 (h : zo_pop2 q L S m = some (p, L1, S1, m1)) : L1 = L ∧ zo_pop2 q L2 S m = some (p, L2, S1, m1) := by
  unfold zo_pop2 at h ⊢
  split at h
  · split at h
    · next hc => cases h; exact ⟨rfl, if_pos hc⟩
    · cases h
  · cases h
theorem zl_putf (h : zo_putf q a1 a2 L S m = some (p, L1, S1, m1)) : L1 = L ∧ zo_putf q a1 a2 L2 S m = some (p, L2, S1, m1) := by
  unfold zo_putf at h ⊢
  split at h
  · split at h
    · next hc => cases h; exact ⟨rfl, if_pos hc⟩
    · cases h
  · cases h
theorem zl_getf (h : zo_getf q a1 a2 L S m = some (p, L1, S1, m1)) : L1 = L ∧ zo_getf q a1 a2 L2 S m = some (p, L2, S1, m1) := by
  unfold zo_getf at h ⊢
  split at h
  · next r t =>
    split at h
    · next hc =>
      split at h
      · next v hv =>
        cases h
        exact ⟨rfl, if_pos hc⟩
      · cases h
    · cases h
  · cases h
theorem zl_push (h : zo_push q a1 L S m = some (p, L1, S1, m1)) : L1 = L ∧ zo_push q a1 L2 S m = some (p, L2, S1, m1) := by
  unfold zo_push at h ⊢
  split at h
  · next hc => cases h; exact ⟨rfl, if_pos hc⟩
  · cases h
theorem zl_sld {Lz k : Nat} {zs : Nat → Int32} (h : zo_sld Lz zs k q L S m = some (p, L1, S1, m1)) : L1 = L ∧ zo_sld Lz zs k q L2 S m = some (p, L2, S1, m1) := by
  unfold zo_sld at h ⊢
  split at h
  · split at h
    · next hc => cases h; exact ⟨rfl, if_pos hc⟩
    · cases h
  · cases h
theorem zl_alen {Lz k : Nat} (h : zo_alen Lz k q L S m = some (p, L1, S1, m1)) : L1 = L ∧ zo_alen Lz k q L2 S m = some (p, L2, S1, m1) := by
  unfold zo_alen at h ⊢
  split at h
  · split at h
    · next hc => cases h; exact ⟨rfl, if_pos hc⟩
    · cases h
  · split at h
    · next hc => cases h; exact ⟨rfl, if_pos hc⟩
    · cases h
  · cases h
theorem zl_acopy {d : Nat} (h : zo_acopy d q L S m = some (p, L1, S1, m1)) : L1 = L ∧ zo_acopy d q L2 S m = some (p, L2, S1, m1) := by
  unfold zo_acopy at h ⊢
  split at h
  · split at h
    · next hc => cases h; exact ⟨rfl, if_pos hc⟩
    · cases h
  · cases h
theorem zl_mi2 {g : Int32 → Int32 → Int32} {d : Nat} (h : zo_mi2 g d q L S m = some (p, L1, S1, m1)) : L1 = L ∧ zo_mi2 g d q L2 S m = some (p, L2, S1, m1) := by
  unfold zo_mi2 at h ⊢
  split at h
  · split at h
    · next hc => cases h; exact ⟨rfl, if_pos hc⟩
    · cases h
  · cases h
theorem zl_ml2 {g : Int64 → Int64 → Int64} {d : Nat} (h : zo_ml2 g d q L S m = some (p, L1, S1, m1)) : L1 = L ∧ zo_ml2 g d q L2 S m = some (p, L2, S1, m1) := by
  unfold zo_ml2 at h ⊢
  split at h
  · split at h
    · next hc => cases h; exact ⟨rfl, if_pos hc⟩
    · cases h
  · cases h
theorem zl_mi1 {g : Int32 → Int32} {d : Nat} (h : zo_mi1 g d q L S m = some (p, L1, S1, m1)) : L1 = L ∧ zo_mi1 g d q L2 S m = some (p, L2, S1, m1) := by
  unfold zo_mi1 at h ⊢
  split at h
  · split at h
    · next hc => cases h; exact ⟨rfl, if_pos hc⟩
    · cases h
  · cases h
theorem zl_ml1 {g : Int64 → Int64} {d : Nat} (h : zo_ml1 g d q L S m = some (p, L1, S1, m1)) : L1 = L ∧ zo_ml1 g d q L2 S m = some (p, L2, S1, m1) := by
  unfold zo_ml1 at h ⊢
  split at h
  · split at h
    · next hc => cases h; exact ⟨rfl, if_pos hc⟩
    · cases h
  · cases h
theorem zl_lsw {i : Instr} {pc : Nat} (h : zo_lsw i pc L S m = some (p, L1, S1, m1)) : L1 = L ∧ zo_lsw i pc L2 S m = some (p, L2, S1, m1) := by
  unfold zo_lsw at h ⊢
  split at h
  · split at h
    · split at h
      · next hc => cases h; exact ⟨rfl, if_pos hc⟩
      · cases h
    · cases h
  · cases h
theorem zl_tsw {i : Instr} {pc : Nat} (h : zo_tsw i pc L S m = some (p, L1, S1, m1)) : L1 = L ∧ zo_tsw i pc L2 S m = some (p, L2, S1, m1) := by
  unfold zo_tsw at h ⊢
  split at h
  · split at h
    · split at h
      · next hx =>
        split at h
        · next hc => cases h; exact ⟨rfl, by rw [if_pos hx, if_pos hc]⟩
        · cases h
      · next hx =>
        split at h
        · cases h
        · next off ho =>
          split at h
          · next hc =>
            cases h
            refine ⟨rfl, ?_⟩
            rw [if_neg hx]
            exact if_pos hc
          · cases h
    · cases h
  · cases h
theorem zl_ild (hl : zLe L L2) (h : zo_ild q a1 L S m = some (p, L1, S1, m1)) : ∃ L3, zo_ild q a1 L2 S m = some (p, L3, S1, m1) ∧ zLe L1 L3 := by
  unfold zo_ild at h ⊢
  split at h
  · next hc =>
    cases h
    rcases hl.get a1 with hg | hg
    · rw [hg] at hc; exact absurd hc (by decide)
    · rw [hg] at hc ⊢
      exact ⟨L2, if_pos hc, hl⟩
  · cases h
theorem zl_lld (hl : zLe L L2) (h : zo_lld q a1 L S m = some (p, L1, S1, m1)) : ∃ L3, zo_lld q a1 L2 S m = some (p, L3, S1, m1) ∧ zLe L1 L3 := by
  unfold zo_lld at h ⊢
  split at h
  · next hc =>
    cases h
    rcases hl.get a1 with hg | hg
    · rw [hg] at hc; exact absurd hc (by decide)
    · rw [hg] at hc ⊢
      exact ⟨L2, if_pos hc, hl⟩
  · cases h
theorem zl_ald (hl : zLe L L2) (h : zo_ald q a1 L S m = some (p, L1, S1, m1)) : ∃ L3, zo_ald q a1 L2 S m = some (p, L3, S1, m1) ∧ zLe L1 L3 := by
  unfold zo_ald at h ⊢
  split at h
  · next hc =>
    cases h
    rcases hl.get a1 with hg | hg
    · rw [hg] at hc; exact absurd hc (by decide)
    · rw [hg] at hc ⊢
      exact ⟨L2, if_pos hc, hl⟩
  · cases h
theorem zl_ist (hl : zLe L L2) (h : zo_ist q a1 L S m = some (p, L1, S1, m1)) : ∃ L3, zo_ist q a1 L2 S m = some (p, L3, S1, m1) ∧ zLe L1 L3 := by
  unfold zo_ist at h ⊢
  split at h
  · split at h
    · next hc => cases h; exact ⟨_, if_pos ⟨hc.1, by rw [hl.len]; exact hc.2⟩, hl.put _ _⟩
    · cases h
  · cases h
theorem zl_ast (hl : zLe L L2) (h : zo_ast q a1 L S m = some (p, L1, S1, m1)) : ∃ L3, zo_ast q a1 L2 S m = some (p, L3, S1, m1) ∧ zLe L1 L3 := by
  unfold zo_ast at h ⊢
  split at h
  · split at h
    · next hc => cases h; exact ⟨_, if_pos ⟨hc.1, by rw [hl.len]; exact hc.2⟩, hl.put _ _⟩
    · cases h
  · cases h
theorem zl_lst (hl : zLe L L2) (h : zo_lst q a1 L S m = some (p, L1, S1, m1)) : ∃ L3, zo_lst q a1 L2 S m = some (p, L3, S1, m1) ∧ zLe L1 L3 := by
  unfold zo_lst at h ⊢
  split at h
  · split at h
    · next hc => cases h; exact ⟨_, if_pos ⟨hc.1, by rw [hl.len]; exact hc.2⟩, (hl.put _ _).set _ _⟩
    · cases h
  · cases h
theorem zl_iinc (hl : zLe L L2) (h : zo_iinc q a1 a2 L S m = some (p, L1, S1, m1)) : ∃ L3, zo_iinc q a1 a2 L2 S m = some (p, L3, S1, m1) ∧ zLe L1 L3 := by
  unfold zo_iinc at h ⊢
  split at h
  · next hc =>
    cases h
    rcases hl.get a1 with hg | hg
    · rw [hg] at hc; exact absurd hc (by decide)
    · rw [hg] at hc ⊢
      exact ⟨_, if_pos hc, hl.put _ _⟩
  · cases h
theorem zl_ok {x : Option zSt} {pp : Nat} (hl : zLe L L2) (h : L1 = L ∧ x = some (pp, L2, S1, m1)) : ∃ L3, x = some (pp, L3, S1, m1) ∧ zLe L1 L3 := by
  obtain ⟨rfl, h⟩ := h
  exact ⟨L2, h, hl⟩
set_option maxHeartbeats 2000000 in
theorem zl_all {Lz : Nat} {zs : Nat → Int32} {d k o pc : Nat} {i : Instr} (hl : zLe L L2) (h : zPure Lz zs d k o i pc q a1 a2 L S m = some (p, L1, S1, m1)) : ∃ L3, zPure Lz zs d k o i pc q a1 a2 L2 S m = some (p, L3, S1, m1) ∧ zLe L1 L3 := by
  unfold zPure at h
  split at h
  · exact zl_ok hl (zl_push (L2 := L2) h)
  · exact zl_ok hl (zl_push (L2 := L2) h)
  · exact zl_ok hl (zl_push (L2 := L2) h)
  · exact zl_ild hl h
  · exact zl_ild hl h
  · exact zl_lld hl h
  · exact zl_lld hl h
  · exact zl_ald hl h
  · exact zl_ald hl h
  · exact zl_ist hl h
  · exact zl_ist hl h
  · exact zl_ast hl h
  · exact zl_ast hl h
  · exact zl_lst hl h
  · exact zl_lst hl h
  · exact zl_iinc hl h
  · exact zl_ok hl (zl_i2 (L2 := L2) h)
  · exact zl_ok hl (zl_i2 (L2 := L2) h)
  · exact zl_ok hl (zl_i2 (L2 := L2) h)
  · exact zl_ok hl (zl_i2z (L2 := L2) h)
  · exact zl_ok hl (zl_i2z (L2 := L2) h)
  · exact zl_ok hl (zl_i2 (L2 := L2) h)
  · exact zl_ok hl (zl_i2 (L2 := L2) h)
  · exact zl_ok hl (zl_i2 (L2 := L2) h)
  · exact zl_ok hl (zl_i2 (L2 := L2) h)
  · exact zl_ok hl (zl_i2 (L2 := L2) h)
  · exact zl_ok hl (zl_i2 (L2 := L2) h)
  · exact zl_ok hl (zl_l2 (L2 := L2) h)
  · exact zl_ok hl (zl_l2 (L2 := L2) h)
  · exact zl_ok hl (zl_l2 (L2 := L2) h)
  · exact zl_ok hl (zl_l2 (L2 := L2) h)
  · exact zl_ok hl (zl_l2 (L2 := L2) h)
  · exact zl_ok hl (zl_l2 (L2 := L2) h)
  · exact zl_ok hl (zl_li (L2 := L2) h)
  · exact zl_ok hl (zl_li (L2 := L2) h)
  · exact zl_ok hl (zl_li (L2 := L2) h)
  · exact zl_ok hl (zl_i2l (L2 := L2) h)
  · exact zl_ok hl (zl_l2i (L2 := L2) h)
  · exact zl_ok hl (zl_ineg (L2 := L2) h)
  · exact zl_ok hl (zl_lcmp (L2 := L2) h)
  · exact zl_ok hl (zl_ifC (L2 := L2) h)
  · exact zl_ok hl (zl_icmp (L2 := L2) h)
  · cases h; exact ⟨L2, rfl, hl⟩
  · exact zl_ok hl (zl_dup (L2 := L2) h)
  · exact zl_ok hl (zl_dup_x1 (L2 := L2) h)
  · exact zl_ok hl (zl_dup2 (L2 := L2) h)
  · exact zl_ok hl (zl_getf (L2 := L2) h)
  · exact zl_ok hl (zl_putf (L2 := L2) h)
  · exact zl_ok hl (zl_iald (L2 := L2) h)
  · exact zl_ok hl (zl_iast (L2 := L2) h)
  · exact zl_ok hl (zl_lald (L2 := L2) h)
  · exact zl_ok hl (zl_last (L2 := L2) h)
  · exact zl_ok hl (zl_bald (L2 := L2) h)
  · exact zl_ok hl (zl_bast (L2 := L2) h)
  · exact zl_ok hl (zl_aald (L2 := L2) h)
  · exact zl_ok hl (zl_sld (L2 := L2) h)
  · exact zl_ok hl (zl_alen (L2 := L2) h)
  · exact zl_ok hl (zl_tsw (L2 := L2) h)
  · exact zl_ok hl (zl_lsw (L2 := L2) h)
  · exact zl_ok hl (zl_acopy (L2 := L2) h)
  · exact zl_ok hl (zl_pop (L2 := L2) h)
  · exact zl_ok hl (zl_pop2 (L2 := L2) h)
  · exact zl_ok hl (zl_lneg (L2 := L2) h)
  · exact zl_ok hl (zl_l2z (L2 := L2) h)
  · exact zl_ok hl (zl_l2z (L2 := L2) h)
  · exact zl_ok hl (zl_mi2 (L2 := L2) h)
  · exact zl_ok hl (zl_mi2 (L2 := L2) h)
  · exact zl_ok hl (zl_mi1 (L2 := L2) h)
  · exact zl_ok hl (zl_ml2 (L2 := L2) h)
  · exact zl_ok hl (zl_ml2 (L2 := L2) h)
  · exact zl_ok hl (zl_ml1 (L2 := L2) h)
  · cases h
end ZLS
theorem zRun_less {M : Nat → Option xMt} {Lz : Nat} {zs : Nat → Int32} : ∀ (f d k pc : Nat) (L L2 S : List zV) (m : zM) (r : zV × zM), zLe L L2 → zRun M Lz zs f d k pc L S m = some r → zRun M Lz zs f d k pc L2 S m = some r := by
  intro f
  induction f with
  | zero => intro d k pc L L2 S m r hl h; cases h
  | succ f ih =>
    intro d k pc L L2 S m r hl h
    unfold zRun at h ⊢
    cases hrow : zRow M k pc with
    | none => rw [hrow] at h; cases h
    | some row =>
      obtain ⟨o, i, q, a1, a2⟩ := row
      rw [hrow] at h
      dsimp only at h ⊢
      by_cases hc : o = 105 ∨ o = 107
      · rw [if_pos hc] at h ⊢
        cases hm : zMt M a1 with
        | none => rw [hm] at h; cases h
        | some mt =>
          obtain ⟨maxL, rt, na, mc, ms⟩ := mt
          rw [hm] at h
          match mc, ms, h with
          | 0, 0, h =>
            have h : (if na ≤ S.length ∧ zCats (S.drop na) ≤ 8 ∧ 0 < d ∧ zCats (S.take na).reverse ≤ maxL ∧ zRc o a2 (zG (S.take na).reverse 0) = true ∧ a1 ≠ 0 then
              (match zRun M Lz zs f (d - 1) a1 0 (zEnt (S.take na).reverse maxL) [] m with
                | none => none
                | some (v, m') => zRun M Lz zs f d k q L (if v.1 = 9 then S.drop na else v :: S.drop na) m') else none) = some r := h
            show (if na ≤ S.length ∧ zCats (S.drop na) ≤ 8 ∧ 0 < d ∧ zCats (S.take na).reverse ≤ maxL ∧ zRc o a2 (zG (S.take na).reverse 0) = true ∧ a1 ≠ 0 then
              (match zRun M Lz zs f (d - 1) a1 0 (zEnt (S.take na).reverse maxL) [] m with
                | none => none
                | some (v, m') => zRun M Lz zs f d k q L2 (if v.1 = 9 then S.drop na else v :: S.drop na) m') else none) = some r
            by_cases hg : na ≤ S.length ∧ zCats (S.drop na) ≤ 8 ∧ 0 < d ∧ zCats (S.take na).reverse ≤ maxL ∧ zRc o a2 (zG (S.take na).reverse 0) = true ∧ a1 ≠ 0
            · rw [if_pos hg] at h ⊢
              cases hr : zRun M Lz zs f (d - 1) a1 0 (zEnt (S.take na).reverse maxL) [] m with
              | none => rw [hr] at h; cases h
              | some vm =>
                obtain ⟨v, m'⟩ := vm
                rw [hr] at h
                exact ih _ _ _ _ _ _ _ _ hl h
            · rw [if_neg hg] at h; cases h
          | 0, s + 1, h => cases h
          | c + 1, s, h => cases h
      · rw [if_neg hc] at h ⊢
        by_cases hr : o = 108 ∨ o = 109 ∨ o = 110
        · rw [if_pos hr] at h ⊢
          exact h
        · rw [if_neg hr] at h ⊢
          cases hp : zPure Lz zs d k o i pc q a1 a2 L S m with
          | none => rw [hp] at h; cases h
          | some st =>
            obtain ⟨pc', L', S', m'⟩ := st
            rw [hp] at h
            obtain ⟨L3, e1, e2⟩ := zl_all hl hp
            rw [e1]
            exact ih _ _ _ _ _ _ _ _ e2 h
theorem zw_less {E : zE} {d k pc : Nat} {L L2 S : List zV} {m : zM} {Q : zV → zM → Prop} (hl : zLe L L2) (n : zW E d k pc L S m Q) : zW E d k pc L2 S m Q := by
  obtain ⟨f, v, m', h1, h2⟩ := n
  exact ⟨f, v, m', zRun_less _ _ _ _ _ _ _ _ _ hl h1, h2⟩
