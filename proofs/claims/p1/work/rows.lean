section
/-! What a start must have that meets narrow_1_1: a class of the name [Ljava/lang/StackTraceElement; in its table (REPORT.md, TRANSLATOR 1). -/
def tr_flat : Nat → Jvm.Cond → List Jvm.Cond
  | 0, c => [c]
  | n + 1, .and a b => tr_flat n a ++ tr_flat n b
  | _ + 1, c => [c]
theorem tr_flat_mem {a : Array Value} {s : State} : ∀ (n : Nat) (c : Jvm.Cond), c.before a s = true → ∀ d ∈ tr_flat n c, d.before a s = true := by
  intro n
  induction n with
  | zero =>
    intro c h d hd
    simp only [tr_flat, List.mem_singleton] at hd
    rw [hd]
    exact h
  | succ n ih =>
    intro c h d hd
    cases c with
    | and x y =>
      rw [Cond.before_and, Bool.and_eq_true] at h
      simp only [tr_flat, List.mem_append] at hd
      rcases hd with hd | hd
      · exact ih x h.1 d hd
      · exact ih y h.2 d hd
    | _ =>
      simp only [tr_flat, List.mem_singleton] at hd
      rw [hd]
      exact h
set_option maxRecDepth 16384 in
theorem tr_leaf : (tr_flat 20 narrow_1_1)[320]? = some (Jvm.Cond.not (Jvm.Cond.castable "[Ljava/lang/StackTraceElement;" "java/lang/String")) := rfl
theorem tr_found {a : Array Value} {s : State} (h : narrow_1_1.before a s = true) : ∃ c, s.vm.findClass "[Ljava/lang/StackTraceElement;" = some c := by
  have h1 := tr_flat_mem 20 narrow_1_1 h _ (List.mem_of_getElem? tr_leaf)
  cases hc : s.vm.findClass "[Ljava/lang/StackTraceElement;" with
  | some c => exact ⟨c, rfl⟩
  | none => simp [Cond.before, Cond.holds, Cond.value, hc] at h1
theorem tr_named {a : Array Value} {s : State} (h : narrow_1_1.before a s = true) : ∃ k ∈ s.vm.classes, k.name = "[Ljava/lang/StackTraceElement;" := by
  obtain ⟨c, hc⟩ := tr_found h
  unfold Vm.findClass at hc
  obtain ⟨hlt, hp, -⟩ := Array.findIdx?_eq_some_iff_getElem.mp hc
  simp only [Bool.and_eq_true, beq_iff_eq] at hp
  exact ⟨s.vm.classes[c], Array.getElem_mem hlt, hp.1.1.1⟩
end
