/-! the run's own laws: it grows with its steps, its limit, the equation of the limit -/
def am_le (a b : AR) : Prop := ∀ r, a = some r → b = some r
theorem am_exe_mono {nx nx' : Nat → List Value → List Value → AH → AR} {cl cl' : Nat → Nat → Nat → List Value → Nat → List Value → List Value → AH → AR} {rt : Option Value → AH → AR} (hn : ∀ a b c d, am_le (nx a b c d) (nx' a b c d)) (hc : ∀ a b c d e g i j, am_le (cl a b c d e g i j) (cl' a b c d e g i j)) (rk : Nat) (i : Instr) (n : Nat) (ts : List Nat) (cv : Int32) (cj : Int64) (ls st : List Value) (h : AH) : am_le (am_exe nx cl rt none rk i n ts cv cj ls st h) (am_exe nx' cl' rt none rk i n ts cv cj ls st h) := by
  have e := am_exe_nat (fun p : AR × AR => p.1) (fun a b c d => (nx a b c d, nx' a b c d)) (fun a b c d e g i j => (cl a b c d e g i j, cl' a b c d e g i j)) (fun v h => (rt v h, rt v h)) (none, none) rk i n ts cv cj ls st h
  have e' := am_exe_nat (fun p : AR × AR => p.2) (fun a b c d => (nx a b c d, nx' a b c d)) (fun a b c d e g i j => (cl a b c d e g i j, cl' a b c d e g i j)) (fun v h => (rt v h, rt v h)) (none, none) rk i n ts cv cj ls st h
  dsimp only at e e'
  rw [← e, ← e']
  have key : ∀ (p : AR × AR), (∃ q : {p : AR × AR // am_le p.1 p.2}, q.1 = p) → am_le p.1 p.2 := fun p ⟨q, h⟩ => h ▸ q.2
  refine key _ ⟨am_exe (fun a b c d => ⟨(nx a b c d, nx' a b c d), hn a b c d⟩) (fun a b c d e g i j => ⟨(cl a b c d e g i j, cl' a b c d e g i j), hc a b c d e g i j⟩) (fun v h => ⟨(rt v h, rt v h), fun _ x => x⟩) ⟨(none, none), fun _ x => x⟩ rk i n ts cv cj ls st h, ?_⟩
  exact am_exe_nat (fun q : {p : AR × AR // am_le p.1 p.2} => q.1) _ _ _ _ rk i n ts cv cj ls st h
theorem am_bd_some {rk : Nat} {a : AR} {f : List Value → AH → AR} {r : Option Value × AH} (e : am_bd rk a f = some r) : ∃ x, a = some x ∧ f x.1.toList x.2 = some r ∧ ∀ f', am_bd rk (some x) f' = f' x.1.toList x.2 := by
  unfold am_bd at e
  split at e
  · unfold am_bV at e
    split at e
    · exact ⟨_, rfl, e, fun _ => rfl⟩
    · cases e
  · unfold am_bI at e
    split at e
    · exact ⟨_, rfl, e, fun _ => rfl⟩
    · cases e
  · unfold am_bI at e
    split at e
    · exact ⟨_, rfl, e, fun _ => rfl⟩
    · cases e
  · unfold am_bJ at e
    split at e
    · exact ⟨_, rfl, e, fun _ => rfl⟩
    · cases e
  · unfold am_bA at e
    split at e
    · exact ⟨_, rfl, e, fun _ => rfl⟩
    · cases e
  · cases e
theorem am_bind_mono {rk : Nat} {a a' : AR} {f f' : List Value → AH → AR} (h : am_le a a') (hf : ∀ x y, am_le (f x y) (f' x y)) : am_le (am_bd rk a f) (am_bd rk a' f') := by
  intro r hr
  obtain ⟨x, ha, e, k⟩ := am_bd_some hr
  rw [h x ha, k]
  exact hf _ _ r e
section run
variable {M : Nat → AMe}
theorem am_run_succ : ∀ (n mi pc : Nat) (ls st : List Value) (h : AH), am_le (am_runP M n mi pc ls st h) (am_runP M (n + 1) mi pc ls st h)
  | 0, mi, pc, ls, st, h => fun r hr => by cases hr
  | n + 1, mi, pc, ls, st, h => by
    unfold am_runP
    split
    · exact fun r hr => by cases hr
    · exact am_exe_mono (fun a b c d => am_run_succ n _ _ _ _ _) (fun a b c d e g i j => am_bind_mono (am_run_succ n _ _ _ _ _) (fun x y => am_run_succ n _ _ _ _ _)) _ _ _ _ _ _ _ _ _
theorem am_run_le {n k : Nat} (hk : n ≤ k) (mi pc : Nat) (ls st : List Value) (h : AH) : am_le (am_runP M n mi pc ls st h) (am_runP M k mi pc ls st h) := by
  obtain ⟨d, rfl⟩ := Nat.exists_eq_add_of_le hk
  induction d with
  | zero => exact fun r hr => hr
  | succ d ih => exact fun r hr => am_run_succ _ _ _ _ _ _ r (ih (Nat.le_add_right _ _) r hr)
/-- what the run comes to, with any number of steps -/
noncomputable def am_evP (M : Nat → AMe) (mi pc : Nat) (ls st : List Value) (h : AH) : AR := by
  classical
  exact if hx : ∃ n r, am_runP M n mi pc ls st h = some r then some (Classical.choose (Classical.choose_spec hx)) else none
theorem am_ev_iff {mi pc : Nat} {ls st : List Value} {h : AH} {r : Option Value × AH} : am_evP M mi pc ls st h = some r ↔ ∃ n, am_runP M n mi pc ls st h = some r := by
  unfold am_evP
  by_cases hx : ∃ n r, am_runP M n mi pc ls st h = some r
  · rw [dif_pos hx]
    have h1 := Classical.choose_spec (Classical.choose_spec hx)
    constructor
    · intro e
      cases e
      exact ⟨_, h1⟩
    · rintro ⟨n, hn⟩
      have a := am_run_le (Nat.le_max_left n (Classical.choose hx)) mi pc ls st h r hn
      have b := am_run_le (Nat.le_max_right n (Classical.choose hx)) mi pc ls st h _ h1
      rw [a] at b
      exact b.symm
  · rw [dif_neg hx]
    constructor
    · intro e; cases e
    · rintro ⟨n, hn⟩; exact absurd ⟨n, r, hn⟩ hx
theorem am_run_ev (n mi pc : Nat) (ls st : List Value) (h : AH) : am_le (am_runP M n mi pc ls st h) (am_evP M mi pc ls st h) := fun r hr => am_ev_iff.mpr ⟨n, hr⟩
/-- one step, and what it comes to then -/
noncomputable def am_nextP (M : Nat → AMe) (mi : Nat) (q : AE) (ls st : List Value) (h : AH) : AR :=
  am_exe (fun pc ls st h => am_evP M mi pc (am_fg (M mi).2.2.2 pc ls) st h)
    (fun mi' rk nL as pc ls st h => am_bd rk (am_evP M mi' 0 (am_entry nL as) [] h) fun vs h => am_evP M mi pc (am_fg (M mi).2.2.2 pc ls) (vs ++ st) h)
    (fun v h => some (v, h)) none (M mi).2.2.1 q.2.1 q.2.2.1 q.2.2.2.1 q.2.2.2.2.1 q.2.2.2.2.2 ls st h
theorem am_next_run {mi : Nat} {q : AE} {ls st : List Value} {h : AH} {r : Option Value × AH} (e : am_nextP M mi q ls st h = some r) : ∃ n, am_exe (fun pc ls st h => am_runP M n mi pc (am_fg (M mi).2.2.2 pc ls) st h)
    (fun mi' rk nL as pc ls st h => am_bd rk (am_runP M n mi' 0 (am_entry nL as) [] h) fun vs h => am_runP M n mi pc (am_fg (M mi).2.2.2 pc ls) (vs ++ st) h)
    (fun v h => some (v, h)) none (M mi).2.2.1 q.2.1 q.2.2.1 q.2.2.2.1 q.2.2.2.2.1 q.2.2.2.2.2 ls st h = some r := by
  -- pairs of a limit and the sequence that comes to it
  have key : ∀ (p : AR × (Nat → AR)), (∃ q : {p : AR × (Nat → AR) // ∀ r, p.1 = some r → ∃ n, p.2 n = some r}, q.1 = p) → p.1 = some r → ∃ n, p.2 n = some r := fun p ⟨q, h⟩ => h ▸ q.2 r
  have e1 := am_exe_nat (fun p : AR × (Nat → AR) => p.1) (fun pc ls st h => (am_evP M mi pc (am_fg (M mi).2.2.2 pc ls) st h, fun n => am_runP M n mi pc (am_fg (M mi).2.2.2 pc ls) st h))
    (fun mi' rk nL as pc ls st h => (am_bd rk (am_evP M mi' 0 (am_entry nL as) [] h) fun vs h => am_evP M mi pc (am_fg (M mi).2.2.2 pc ls) (vs ++ st) h, fun n => am_bd rk (am_runP M n mi' 0 (am_entry nL as) [] h) fun vs h => am_runP M n mi pc (am_fg (M mi).2.2.2 pc ls) (vs ++ st) h))
    (fun v h => (some (v, h), fun _ => some (v, h))) (none, fun _ => none) (M mi).2.2.1 q.2.1 q.2.2.1 q.2.2.2.1 q.2.2.2.2.1 q.2.2.2.2.2 ls st h
  have e2 : ∀ n, _ := fun n => am_exe_nat (fun p : AR × (Nat → AR) => p.2 n) (fun pc ls st h => (am_evP M mi pc (am_fg (M mi).2.2.2 pc ls) st h, fun n => am_runP M n mi pc (am_fg (M mi).2.2.2 pc ls) st h))
    (fun mi' rk nL as pc ls st h => (am_bd rk (am_evP M mi' 0 (am_entry nL as) [] h) fun vs h => am_evP M mi pc (am_fg (M mi).2.2.2 pc ls) (vs ++ st) h, fun n => am_bd rk (am_runP M n mi' 0 (am_entry nL as) [] h) fun vs h => am_runP M n mi pc (am_fg (M mi).2.2.2 pc ls) (vs ++ st) h))
    (fun v h => (some (v, h), fun _ => some (v, h))) (none, fun _ => none) (M mi).2.2.1 q.2.1 q.2.2.1 q.2.2.2.1 q.2.2.2.2.1 q.2.2.2.2.2 ls st h
  dsimp only at e1 e2
  unfold am_nextP at e
  rw [← e1] at e
  obtain ⟨n, hn⟩ := key _ ⟨am_exe (fun pc ls st h => ⟨(am_evP M mi pc (am_fg (M mi).2.2.2 pc ls) st h, fun n => am_runP M n mi pc (am_fg (M mi).2.2.2 pc ls) st h), fun r hr => am_ev_iff.mp hr⟩)
    (fun mi' rk nL as pc ls st h => ⟨(am_bd rk (am_evP M mi' 0 (am_entry nL as) [] h) fun vs h => am_evP M mi pc (am_fg (M mi).2.2.2 pc ls) (vs ++ st) h, fun n => am_bd rk (am_runP M n mi' 0 (am_entry nL as) [] h) fun vs h => am_runP M n mi pc (am_fg (M mi).2.2.2 pc ls) (vs ++ st) h), fun r hr => by
      dsimp only at hr ⊢
      obtain ⟨x, ha, e, k⟩ := am_bd_some hr
      obtain ⟨n1, h1⟩ := am_ev_iff.mp ha
      obtain ⟨n2, h2⟩ := am_ev_iff.mp e
      refine ⟨max n1 n2, ?_⟩
      rw [am_run_le (Nat.le_max_left n1 n2) _ _ _ _ _ _ h1, k]
      exact am_run_le (Nat.le_max_right n1 n2) _ _ _ _ _ _ h2⟩)
    (fun v h => ⟨(some (v, h), fun _ => some (v, h)), fun r hr => ⟨0, hr⟩⟩) ⟨(none, fun _ => none), fun r hr => by cases hr⟩ (M mi).2.2.1 q.2.1 q.2.2.1 q.2.2.2.1 q.2.2.2.2.1 q.2.2.2.2.2 ls st h, am_exe_nat (fun q : {p : AR × (Nat → AR) // ∀ r, p.1 = some r → ∃ n, p.2 n = some r} => q.1) _ _ _ _ _ _ _ _ _ _ _ _ _⟩ e
  exact ⟨n, (e2 n) ▸ hn⟩
/-- THE EQUATION: what a frame comes to is one step of it, and what that comes to -/
theorem am_ev_eq (mi pc : Nat) (ls st : List Value) (h : AH) : am_evP M mi pc ls st h = match am_fetch (M mi).1 pc with
    | none => none
    | some q => am_nextP M mi q ls st h := by
  have hsome : ∀ r, am_evP M mi pc ls st h = some r ↔ (match am_fetch (M mi).1 pc with
    | none => none
    | some q => am_nextP M mi q ls st h) = some r := by
    intro r
    constructor
    · intro e
      obtain ⟨n, hn⟩ := am_ev_iff.mp e
      cases n with
      | zero => cases hn
      | succ n =>
        unfold am_runP at hn
        split at hn
        · cases hn
        · rename_i q hq
          rw [hq]
          exact am_exe_mono (fun a b c d => am_run_ev n _ _ _ _ _) (fun a b c d e g i j => am_bind_mono (am_run_ev n _ _ _ _ _) (fun x y => am_run_ev n _ _ _ _ _)) _ _ _ _ _ _ _ _ _ r hn
    · intro e
      split at e
      · cases e
      · rename_i q hq
        obtain ⟨n, hn⟩ := am_next_run e
        refine am_ev_iff.mpr ⟨n + 1, ?_⟩
        unfold am_runP
        rw [hq]
        exact hn
  cases h1 : am_evP M mi pc ls st h with
  | none =>
    cases h2 : (match am_fetch (M mi).1 pc with
    | none => none
    | some q => am_nextP M mi q ls st h) with
    | none => rfl
    | some r => exact absurd ((hsome r).mpr h2) (by rw [h1]; exact fun z => by cases z)
  | some r => exact ((hsome r).mp h1).symm
/-- what a frame comes to, its next k steps laid open, up to the places in sp -/
noncomputable def am_ctP (M : Nat → AMe) (mi : Nat) (cd : List AE) (rk : Nat) (fg : List (Nat × List Nat)) (sp : List Nat) : Nat → Nat → List Value → List Value → AH → AR
  | 0, pc, ls, st, h => am_evP M mi pc ls st h
  | k + 1, pc, ls, st, h => match am_fetch cd pc with
    | none => none
    | some q => am_exe (fun pc ls st h => bif sp.any (fun z => Nat.beq z pc) then am_evP M mi pc (am_fg fg pc ls) st h else am_ctP M mi cd rk fg sp k pc (am_fg fg pc ls) st h)
      (fun mi' rk' nL as pc ls st h => am_bd rk' (am_evP M mi' 0 (am_entry nL as) [] h) fun vs h => bif sp.any (fun z => Nat.beq z pc) then am_evP M mi pc (am_fg fg pc ls) (vs ++ st) h else am_ctP M mi cd rk fg sp k pc (am_fg fg pc ls) (vs ++ st) h)
      (fun v h => some (v, h)) none rk q.2.1 q.2.2.1 q.2.2.2.1 q.2.2.2.2.1 q.2.2.2.2.2 ls st h
theorem am_ct_eq {mi : Nat} {cd : List AE} {nL rk : Nat} {fg : List (Nat × List Nat)} (hM : M mi = (cd, nL, rk, fg)) (sp : List Nat) : ∀ (k pc : Nat) (ls st : List Value) (h : AH), am_evP M mi pc ls st h = am_ctP M mi cd rk fg sp k pc ls st h
  | 0, pc, ls, st, h => rfl
  | k + 1, pc, ls, st, h => by
    rw [am_ev_eq, hM]
    unfold am_ctP am_nextP
    simp only [hM]
    have e : ∀ (pc : Nat) (ls st : List Value) (h : AH), (bif sp.any (fun z => Nat.beq z pc) then am_evP M mi pc ls st h else am_ctP M mi cd rk fg sp k pc ls st h) = am_evP M mi pc ls st h := by
      intro pc ls st h
      rw [← am_ct_eq hM sp k pc ls st h]
      cases sp.any (fun z => Nat.beq z pc) <;> rfl
    have e2 : ∀ (rk' : Nat) (x : AR) (pc : Nat) (ls st : List Value), (am_bd rk' x fun vs h => bif sp.any (fun z => Nat.beq z pc) then am_evP M mi pc (am_fg fg pc ls) (vs ++ st) h else am_ctP M mi cd rk fg sp k pc (am_fg fg pc ls) (vs ++ st) h) = am_bd rk' x fun vs h => am_evP M mi pc (am_fg fg pc ls) (vs ++ st) h := by
      intro rk' x pc ls st
      exact congrArg (am_bd rk' x) (funext fun vs => funext fun h => e pc _ _ h)
    have en : (fun (pc : Nat) (ls st : List Value) (h : AH) => bif sp.any (fun z => Nat.beq z pc) then am_evP M mi pc (am_fg fg pc ls) st h else am_ctP M mi cd rk fg sp k pc (am_fg fg pc ls) st h) = fun pc ls st h => am_evP M mi pc (am_fg fg pc ls) st h := by
      funext pc ls st h
      exact e pc _ st h
    have ec : (fun (mi' rk' nL : Nat) (as : List Value) (pc : Nat) (ls st : List Value) (h : AH) => am_bd rk' (am_evP M mi' 0 (am_entry nL as) [] h) fun vs h => bif sp.any (fun z => Nat.beq z pc) then am_evP M mi pc (am_fg fg pc ls) (vs ++ st) h else am_ctP M mi cd rk fg sp k pc (am_fg fg pc ls) (vs ++ st) h) = fun mi' rk' nL as pc ls st h => am_bd rk' (am_evP M mi' 0 (am_entry nL as) [] h) fun vs h => am_evP M mi pc (am_fg fg pc ls) (vs ++ st) h := by
      funext mi' rk' nL as pc ls st h
      exact e2 rk' _ pc ls st
    rw [en, ec]
end run
/-! the same, walking on from instruction to instruction without a search where nothing jumps -/
def am_drop : List AE → Nat → List AE
  | [], _ => []
  | q :: r, pc => bif Nat.beq q.1 pc then q :: r else am_drop r pc
def am_hd (r : List AE) (pc : Nat) : Bool := match r with
  | [] => false
  | q :: _ => Nat.beq q.1 pc
def am_srt : List AE → Nat → Bool
  | [], _ => true
  | q :: r, k => Nat.ble k q.1 && am_srt r (q.1 + 1)
theorem am_srt_hd : ∀ (p : List AE) (k : Nat) {r : List AE} {pc : Nat}, am_srt (p ++ r) k = true → am_hd r pc = true → k ≤ pc ∧ am_drop (p ++ r) pc = r
  | [], k, r, pc, h, hd => by
    cases r with
    | nil => cases hd
    | cons q r =>
      have e : q.1 = pc := Nat.eq_of_beq_eq_true hd
      simp only [List.nil_append, am_srt, Bool.and_eq_true] at h
      refine ⟨e ▸ Nat.le_of_ble_eq_true h.1, ?_⟩
      show (bif Nat.beq q.1 pc then q :: r else am_drop r pc) = q :: r
      rw [show Nat.beq q.1 pc = true from hd]
      rfl
  | q :: p, k, r, pc, h, hd => by
    simp only [List.cons_append, am_srt, Bool.and_eq_true] at h
    obtain ⟨h1, h2⟩ := am_srt_hd p (q.1 + 1) h.2 hd
    have hk := Nat.le_of_ble_eq_true h.1
    refine ⟨by omega, ?_⟩
    show (bif Nat.beq q.1 pc then q :: (p ++ r) else am_drop (p ++ r) pc) = r
    have : Nat.beq q.1 pc = false := by
      cases hb : Nat.beq q.1 pc with
      | false => rfl
      | true => have := Nat.eq_of_beq_eq_true hb; omega
    rw [this]
    exact h2
theorem am_fetch_drop : ∀ (cd : List AE) (pc : Nat), am_fetch cd pc = (am_drop cd pc).head?
  | [], pc => rfl
  | q :: r, pc => by
    unfold am_fetch am_drop
    cases Nat.beq q.1 pc with
    | true => rfl
    | false => exact am_fetch_drop r pc
theorem am_drop_suf : ∀ (cd : List AE) (pc : Nat), ∃ p, cd = p ++ am_drop cd pc
  | [], pc => ⟨[], rfl⟩
  | q :: r, pc => by
    unfold am_drop
    cases Nat.beq q.1 pc with
    | true => exact ⟨[], rfl⟩
    | false =>
      obtain ⟨p, h⟩ := am_drop_suf r pc
      exact ⟨q :: p, congrArg (q :: ·) h⟩
theorem am_fg_no (sp : List Nat) {pc : Nat} {ls : List Value} : ∀ (fg : List (Nat × List Nat)), fg.all (fun q => sp.any (fun z => Nat.beq z q.1)) = true → sp.any (fun z => Nat.beq z pc) = false → am_fg fg pc ls = ls
  | [], _, _ => rfl
  | q :: r, h, hp => by
    simp only [List.all_cons, Bool.and_eq_true] at h
    unfold am_fg
    cases hq : Nat.beq q.1 pc with
    | false => exact am_fg_no sp r h.2 hp
    | true =>
      rw [Nat.eq_of_beq_eq_true hq, hp] at h
      cases h.1
section run2
variable {M : Nat → AMe}
noncomputable def am_c2P (M : Nat → AMe) (mi : Nat) (cd : List AE) (rk : Nat) (fg : List (Nat × List Nat)) (sp : List Nat) : Nat → List AE → Nat → List Value → List Value → AH → AR
  | 0, _, pc, ls, st, h => am_evP M mi pc ls st h
  | _ + 1, [], _, _, _, _ => none
  | k + 1, q :: r, _, ls, st, h => am_exe (fun pc ls st h => bif sp.any (fun z => Nat.beq z pc) then am_evP M mi pc (am_fg fg pc ls) st h else bif am_hd r pc then am_c2P M mi cd rk fg sp k r pc ls st h else am_c2P M mi cd rk fg sp k (am_drop cd pc) pc ls st h)
      (fun mi' rk' nL as pc ls st h => am_bd rk' (am_evP M mi' 0 (am_entry nL as) [] h) fun vs h => bif sp.any (fun z => Nat.beq z pc) then am_evP M mi pc (am_fg fg pc ls) (vs ++ st) h else bif am_hd r pc then am_c2P M mi cd rk fg sp k r pc ls (vs ++ st) h else am_c2P M mi cd rk fg sp k (am_drop cd pc) pc ls (vs ++ st) h)
      (fun v h => some (v, h)) none rk q.2.1 q.2.2.1 q.2.2.2.1 q.2.2.2.2.1 q.2.2.2.2.2 ls st h
theorem am_c2_eq {mi : Nat} {cd : List AE} {nL rk : Nat} {fg : List (Nat × List Nat)} (hM : M mi = (cd, nL, rk, fg)) (hs : am_srt cd 0 = true) (sp : List Nat) (hf : fg.all (fun q => sp.any (fun z => Nat.beq z q.1)) = true) : ∀ (k pc : Nat) (ls st : List Value) (h : AH), am_evP M mi pc ls st h = am_c2P M mi cd rk fg sp k (am_drop cd pc) pc ls st h
  | 0, pc, ls, st, h => rfl
  | k + 1, pc, ls, st, h => by
    rw [am_ev_eq, hM]
    dsimp only
    rw [am_fetch_drop]
    obtain ⟨p, hp⟩ := am_drop_suf cd pc
    cases hd : am_drop cd pc with
    | nil => rfl
    | cons q r =>
      have e : ∀ (pc : Nat) (ls st : List Value) (h : AH), (bif sp.any (fun z => Nat.beq z pc) then am_evP M mi pc (am_fg fg pc ls) st h else bif am_hd r pc then am_c2P M mi cd rk fg sp k r pc ls st h else am_c2P M mi cd rk fg sp k (am_drop cd pc) pc ls st h) = am_evP M mi pc (am_fg fg pc ls) st h := by
        intro pc2 ls st h
        cases hsp : sp.any (fun z => Nat.beq z pc2) with
        | true => rfl
        | false =>
          rw [am_fg_no sp fg hf hsp]
          show (bif am_hd r pc2 then am_c2P M mi cd rk fg sp k r pc2 ls st h else am_c2P M mi cd rk fg sp k (am_drop cd pc2) pc2 ls st h) = _
          cases hh : am_hd r pc2 with
          | false => exact (am_c2_eq hM hs sp hf k pc2 ls st h).symm
          | true =>
            have h2 : am_drop cd pc2 = r := by
              have hc : cd = (p ++ [q]) ++ r := by rw [List.append_assoc, List.singleton_append, ← hd]; exact hp
              have := (am_srt_hd (p ++ [q]) 0 (hc ▸ hs) hh).2
              rw [← hc] at this
              exact this
            show am_c2P M mi cd rk fg sp k r pc2 ls st h = _
            rw [← h2]
            exact (am_c2_eq hM hs sp hf k pc2 ls st h).symm
      have en : (fun (pc : Nat) (ls st : List Value) (h : AH) => bif sp.any (fun z => Nat.beq z pc) then am_evP M mi pc (am_fg fg pc ls) st h else bif am_hd r pc then am_c2P M mi cd rk fg sp k r pc ls st h else am_c2P M mi cd rk fg sp k (am_drop cd pc) pc ls st h) = fun pc ls st h => am_evP M mi pc (am_fg fg pc ls) st h := by
        funext pc ls st h
        exact e pc ls st h
      have ec : (fun (mi' rk' nL : Nat) (as : List Value) (pc : Nat) (ls st : List Value) (h : AH) => am_bd rk' (am_evP M mi' 0 (am_entry nL as) [] h) fun vs h => bif sp.any (fun z => Nat.beq z pc) then am_evP M mi pc (am_fg fg pc ls) (vs ++ st) h else bif am_hd r pc then am_c2P M mi cd rk fg sp k r pc ls (vs ++ st) h else am_c2P M mi cd rk fg sp k (am_drop cd pc) pc ls (vs ++ st) h) = fun mi' rk' nL as pc ls st h => am_bd rk' (am_evP M mi' 0 (am_entry nL as) [] h) fun vs h => am_evP M mi pc (am_fg fg pc ls) (vs ++ st) h := by
        funext mi' rk' nL as pc ls st h
        exact congrArg (am_bd rk' _) (funext fun vs => funext fun h => e pc ls _ h)
      show am_nextP M mi q ls st h = _
      unfold am_nextP am_c2P
      rw [en, ec, hM]
end run2
