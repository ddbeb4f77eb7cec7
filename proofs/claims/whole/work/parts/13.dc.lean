/-! rows for the decompiled methods -/
abbrev cR (z : Value) (e : am_Me) (q : am_St) (r : Except Nat (Option Value)) (M' : am_M) : Prop := am_R am_mt am_cp cs_sh (am_sv z) am_sa e q r M'
abbrev mR (z : Value) (e : am_Me) (q : am_St) (r : Except Nat (Option Value)) (M' : am_M) : Prop := am_R am_mt am_cp ms_sh (am_sv z) am_sa e q r M'
abbrev am_O : Type := Option (Except Nat (Option Value) × am_M)
theorem am_gd {α : Type} {c : Prop} [Decidable c] {x : Option α} {r : α} (h : (if c then x else none) = some r) : c ∧ x = some r := by
  by_cases hc : c
  · rw [if_pos hc] at h; exact ⟨hc, h⟩
  · rw [if_neg hc] at h; cases h
theorem am_it {α : Type} {c : Prop} [Decidable c] {x y : Option α} {r : α} (h : (if c then x else y) = some r) : (c ∧ x = some r) ∨ (¬ c ∧ y = some r) := by
  by_cases hc : c
  · rw [if_pos hc] at h; exact Or.inl ⟨hc, h⟩
  · rw [if_neg hc] at h; exact Or.inr ⟨hc, h⟩
def am_bv (o : am_O) (k : am_M → am_O) : am_O := match o with
  | some (.ok none, M) => k M
  | _ => none
def am_bvx (o : am_O) (k : am_M → am_O) : am_O := match o with
  | some (.ok none, M) => k M
  | some (.error x, M) => some (.error x, M)
  | _ => none
def am_bi (o : am_O) (k : Int32 → am_M → am_O) : am_O := match o with
  | some (.ok (some (.int v)), M) => k v M
  | _ => none
def am_bix (o : am_O) (k : Int32 → am_M → am_O) : am_O := match o with
  | some (.ok (some (.int v)), M) => k v M
  | some (.error x, M) => some (.error x, M)
  | _ => none
def am_br (o : am_O) (k : Nat → am_M → am_O) : am_O := match o with
  | some (.ok (some (.ref v)), M) => k v M
  | _ => none
theorem am_bv_s {o : am_O} {k : am_M → am_O} {q : Except Nat (Option Value) × am_M} (h : am_bv o k = some q) : ∃ M, o = some (.ok none, M) ∧ k M = some q := by
  unfold am_bv at h
  split at h
  · exact ⟨_, rfl, h⟩
  · cases h
theorem am_bvx_s {o : am_O} {k : am_M → am_O} {q : Except Nat (Option Value) × am_M} (h : am_bvx o k = some q) : (∃ M, o = some (.ok none, M) ∧ k M = some q) ∨ ∃ x M, o = some (.error x, M) ∧ some (.error x, M) = some q := by
  unfold am_bvx at h
  split at h
  · exact Or.inl ⟨_, rfl, h⟩
  · exact Or.inr ⟨_, _, rfl, h⟩
  · cases h
theorem am_bi_s {o : am_O} {k : Int32 → am_M → am_O} {q : Except Nat (Option Value) × am_M} (h : am_bi o k = some q) : ∃ v M, o = some (.ok (some (.int v)), M) ∧ k v M = some q := by
  unfold am_bi at h
  split at h
  · exact ⟨_, _, rfl, h⟩
  · cases h
theorem am_bix_s {o : am_O} {k : Int32 → am_M → am_O} {q : Except Nat (Option Value) × am_M} (h : am_bix o k = some q) : (∃ v M, o = some (.ok (some (.int v)), M) ∧ k v M = some q) ∨ ∃ x M, o = some (.error x, M) ∧ some (.error x, M) = some q := by
  unfold am_bix at h
  split at h
  · exact Or.inl ⟨_, _, rfl, h⟩
  · exact Or.inr ⟨_, _, rfl, h⟩
  · cases h
theorem am_br_s {o : am_O} {k : Nat → am_M → am_O} {q : Except Nat (Option Value) × am_M} (h : am_br o k = some q) : ∃ v M, o = some (.ok (some (.ref v)), M) ∧ k v M = some q := by
  unfold am_br at h
  split at h
  · exact ⟨_, _, rfl, h⟩
  · cases h
section DCR
variable {mt : Nat → Option am_Me} {cp : Nat → Nat → Option am_Cp} {sh : List am_Sc} {sv : Nat → Value} {sa : am_Sa} {e : am_Me} {pc tgt : Nat} {L : am_Ls} {st : List Value} {M M' : am_M} {x y : Int32} {op : ClassFile.Cond} {off : Int} {r : Except Nat (Option Value)}
theorem am_R.bt (h : am_at (am_pg e) pc = some (.inl (.if_icmp op off), 3)) (ht : am_tg pc off = some tgt) (hc : am_c op x y) (k : am_R mt cp sh sv sa e (tgt, L, st, M) r M') : am_R mt cp sh sv sa e (pc, L, .int y :: .int x :: st, M) r M' := am_R.icmp h ht (fun _ => k) (fun q => absurd hc q)
theorem am_R.bn (h : am_at (am_pg e) pc = some (.inl (.if_icmp op off), 3)) (ht : am_tg pc off = some tgt) (hc : ¬ am_c op x y) (k : am_R mt cp sh sv sa e (pc + 3, L, st, M) r M') : am_R mt cp sh sv sa e (pc, L, .int y :: .int x :: st, M) r M' := am_R.icmp h ht (fun q => absurd q hc) (fun _ => k)
theorem am_R.ct (h : am_at (am_pg e) pc = some (.inl (.ifCond op off), 3)) (ht : am_tg pc off = some tgt) (hc : am_c op x 0) (k : am_R mt cp sh sv sa e (tgt, L, st, M) r M') : am_R mt cp sh sv sa e (pc, L, .int x :: st, M) r M' := am_R.ifc h ht (fun _ => k) (fun q => absurd hc q)
theorem am_R.cn (h : am_at (am_pg e) pc = some (.inl (.ifCond op off), 3)) (ht : am_tg pc off = some tgt) (hc : ¬ am_c op x 0) (k : am_R mt cp sh sv sa e (pc + 3, L, st, M) r M') : am_R mt cp sh sv sa e (pc, L, .int x :: st, M) r M' := am_R.ifc h ht (fun q => absurd q hc) (fun _ => k)
end DCR
