theorem A_istn {G : GG} {d : Nat} {mi : MI} {pc : Nat} {L st : List Value} {T : TT} {u : MU} {kc ks : Nat} {Q : QQ} {L2 : List Value} {i : Fin 4} {v : Int32} (hd : decode mi.2.1 pc = .ok (.istore_n i, 1)) (hi : (i : Nat) < L.length) (h2 : L.set (i : Nat) (.int v) = L2) (kk : AW G d mi (pc + 1) L2 st T u kc ks Q) : AW G d mi pc L (.int v :: st) T u kc ks Q := by
  subst h2
  exact A_istoren hd hi kk
theorem A_ist {G : GG} {d : Nat} {mi : MI} {pc : Nat} {L st : List Value} {T : TT} {u : MU} {kc ks : Nat} {Q : QQ} {L2 : List Value} {i : Nat} {v : Int32} (hd : decode mi.2.1 pc = .ok (.istore i, 2)) (hi : i < L.length) (h2 : L.set i (.int v) = L2) (kk : AW G d mi (pc + 2) L2 st T u kc ks Q) : AW G d mi pc L (.int v :: st) T u kc ks Q := by
  subst h2
  exact A_istore hd hi kk
theorem A_astn {G : GG} {d : Nat} {mi : MI} {pc : Nat} {L st : List Value} {T : TT} {u : MU} {kc ks : Nat} {Q : QQ} {L2 : List Value} {i : Fin 4} {v : Nat} (hd : decode mi.2.1 pc = .ok (.astore_n i, 1)) (hi : (i : Nat) < L.length) (h2 : L.set (i : Nat) (.ref v) = L2) (kk : AW G d mi (pc + 1) L2 st T u kc ks Q) : AW G d mi pc L (.ref v :: st) T u kc ks Q := by
  subst h2
  exact A_astoren hd hi kk
theorem A_ast {G : GG} {d : Nat} {mi : MI} {pc : Nat} {L st : List Value} {T : TT} {u : MU} {kc ks : Nat} {Q : QQ} {L2 : List Value} {i : Nat} {v : Nat} (hd : decode mi.2.1 pc = .ok (.astore i, 2)) (hi : i < L.length) (h2 : L.set i (.ref v) = L2) (kk : AW G d mi (pc + 2) L2 st T u kc ks Q) : AW G d mi pc L (.ref v :: st) T u kc ks Q := by
  subst h2
  exact A_astore hd hi kk
theorem A_inc {G : GG} {d : Nat} {mi : MI} {pc : Nat} {L st : List Value} {T : TT} {u : MU} {kc ks : Nat} {Q : QQ} {L2 : List Value} {i : Nat} {n : Int} {v : Int32} (w : Int32) (hd : decode mi.2.1 pc = .ok (.iinc i n, 3)) (hl : L[i]? = some (.int v)) (hw : v + Int32.ofInt n = w) (h2 : L.set i (.int w) = L2) (kk : AW G d mi (pc + 3) L2 st T u kc ks Q) : AW G d mi pc L st T u kc ks Q := by
  subst h2
  exact A_iinc w hd hl hw kk
def oob (i : Int32) (n : Nat) : Bool := decide (i < 0 ∨ n ≤ i.toNatClampNeg)
theorem oob_f {i : Int32} {n : Nat} (h : ¬ oob i n = true) : vp_in i n := fun z => h (by simpa [oob] using z)
theorem oi_cf {α : Type} {c : Prop} [Decidable c] {t : Option α} {x : α} (h : (if c then none else t) = some x) : ¬ c ∧ t = some x := by
  by_cases hc : c
  · rw [if_pos hc] at h; cases h
  · rw [if_neg hc] at h; exact ⟨hc, h⟩
theorem cp_of {n : Int32} {a b : Nat} (h : ¬ (n < 0 ∨ a < n.toNatClampNeg ∨ b < n.toNatClampNeg)) : ¬ n < 0 ∧ (0 : Int32).toNatClampNeg + n.toNatClampNeg ≤ a ∧ (0 : Int32).toNatClampNeg + n.toNatClampNeg ≤ b := by
  have e : (0 : Int32).toNatClampNeg = 0 := rfl
  rw [e]
  refine ⟨fun z => h (Or.inl z), ?_, ?_⟩
  · have : ¬ a < n.toNatClampNeg := fun z => h (Or.inr (Or.inl z))
    omega
  · have : ¬ b < n.toNatClampNeg := fun z => h (Or.inr (Or.inr z))
    omega
