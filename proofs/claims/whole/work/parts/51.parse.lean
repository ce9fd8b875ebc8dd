/-! The text's lines -/
abbrev PSt := Nat × (Nat → Int32) × Nat × List (List Nat) × Bool × Bool × Bool
abbrev ER := Nat × Nat
def er (B : Nat → Int32) (N p k : Nat) : ER := (if kd B N p = 5 then 1 else k, pl B N p)
def nIn (B : Nat → Int32) (N p : Nat) (lo hi : Int32) : Except ER (Int32 × Nat) :=
  if kd B N p = 2 then (if (decide (lo ≤ vl B N p) && decide (vl B N p ≤ hi)) = true then .ok (vl B N p, sp B N p) else .error (er B N p 4)) else .error (er B N p 2)
def sgn (B : Nat → Int32) (N p : Nat) (most : Int32) : Except ER (Int32 × Nat) :=
  if kd B N p = 4 then (match nIn B N (sp B N p) 0 most with
    | .ok x => .ok (-x.1, x.2)
    | .error e => .error e) else nIn B N p 0 most
def sgs (B : Nat → Int32) (N base : Nat) (most : Int32) (p : Nat) (f : Nat → Int32) : Nat → Except ER (Nat × (Nat → Int32))
  | 0 => .ok (p, f)
  | k + 1 => match sgs B N base most p f k with
    | .error e => .error e
    | .ok x => match sgn B N x.1 most with
      | .error e => .error e
      | .ok y => .ok (y.2, upd x.2 (base + k) y.1)
def wRows : List Nat := [115, 119, 111, 114]
def wColumn : List Nat := [110, 109, 117, 108, 111, 99]
def wGain : List Nat := [110, 105, 97, 103]
def wNeed : List Nat := [100, 101, 101, 110]
def wSteps : List Nat := [115, 112, 101, 116, 115]
def wAll : List (List Nat) := [wRows, wColumn, wGain, wNeed, wSteps]
def isK (B : Nat → Int32) (N p : Nat) (w : List Nat) : Bool := decide (kd B N p = 1) && decide (wd B N p = w)
def rowL (B : Nat → Int32) (N : Nat) (s : PSt) : Except ER PSt :=
  if s.2.2.2.2.1 = true then .error (er B N s.1 2) else match nIn B N (sp B N s.1) 1 3 with
    | .error e => .error e
    | .ok x => .ok (x.2, s.2.1, ix x.1, s.2.2.2.1, s.2.2.2.2.1, s.2.2.2.2.2.1, s.2.2.2.2.2.2)
def colL (B : Nat → Int32) (N : Nat) (s : PSt) : Except ER PSt :=
  if s.2.2.2.1.length = 8 then .error (er B N s.1 2)
  else if kd B N (sp B N s.1) ≠ 1 ∨ wd B N (sp B N s.1) ∈ wAll then .error (er B N (sp B N s.1) 2)
  else if wd B N (sp B N s.1) ∈ s.2.2.2.1 then .error (er B N (sp B N s.1) 3)
  else match sgs B N (3 * s.2.2.2.1.length) 5 (sp B N (sp B N s.1)) s.2.1 s.2.2.1 with
    | .error e => .error e
    | .ok x => if isK B N x.1 wGain = true then (match sgn B N (sp B N x.1) 99 with
        | .error e => .error e
        | .ok y => .ok (y.2, upd x.2 (24 + s.2.2.2.1.length) y.1, s.2.2.1, s.2.2.2.1 ++ [wd B N (sp B N s.1)], s.2.2.2.2.1, s.2.2.2.2.2.1, s.2.2.2.2.2.2))
      else .error (er B N x.1 2)
def needL (B : Nat → Int32) (N : Nat) (s : PSt) : Except ER PSt :=
  if s.2.2.2.2.2.1 = true then .error (er B N s.1 3) else match sgs B N 32 20 (sp B N s.1) s.2.1 s.2.2.1 with
    | .error e => .error e
    | .ok x => .ok (x.1, x.2, s.2.2.1, s.2.2.2.1, s.2.2.2.2.1, true, s.2.2.2.2.2.2)
def stepL (B : Nat → Int32) (N : Nat) (s : PSt) : Except ER PSt :=
  if s.2.2.2.2.2.2 = true then .error (er B N s.1 3) else match nIn B N (sp B N s.1) 1 12 with
    | .error e => .error e
    | .ok x => .ok (x.2, upd s.2.1 35 x.1, s.2.2.1, s.2.2.2.1, s.2.2.2.2.1, s.2.2.2.2.2.1, true)
def bodL (B : Nat → Int32) (N : Nat) (s : PSt) : Except ER PSt :=
  if isK B N s.1 wRows = true then rowL B N s
  else if isK B N s.1 wColumn = true then colL B N s
  else if isK B N s.1 wNeed = true then needL B N s
  else if isK B N s.1 wSteps = true then stepL B N s
  else .error (er B N s.1 2)
def lineL (B : Nat → Int32) (N : Nat) (s : PSt) : Except ER PSt := match bodL B N s with
  | .error e => .error e
  | .ok x => if kd B N x.1 = 3 then .ok (sp B N x.1, x.2.1, x.2.2.1, x.2.2.2.1, true, x.2.2.2.2.2.1, x.2.2.2.2.2.2) else .error (er B N x.1 2)
def prgL (B : Nat → Int32) (N : Nat) : Nat → PSt → Except ER PSt
  | 0, s => .ok s
  | k + 1, s => if kd B N s.1 = 0 then .ok s else match lineL B N s with
    | .error e => .error e
    | .ok x => prgL B N k x
def s0L : PSt := (0, (fun k => if k = 35 then 8 else 0), 1, [], false, false, false)
def prog (B : Nat → Int32) (N : Nat) : Except ER PSt := prgL B N (N + 1) s0L
theorem er_bd (B : Nat → Int32) (N p k : Nat) (hk : 1 ≤ k) (hk2 : k < 10) : 1 ≤ (er B N p k).1 ∧ (er B N p k).1 < 10 := by
  unfold er
  dsimp only
  split <;> omega
theorem nIn_sp {B : Nat → Int32} {N p : Nat} {lo hi : Int32} {x : Int32 × Nat} (h : nIn B N p lo hi = .ok x) : kd B N p = 2 ∧ x = (vl B N p, sp B N p) ∧ lo ≤ x.1 ∧ x.1 ≤ hi := by
  unfold nIn at h
  by_cases e : kd B N p = 2
  · rw [if_pos e] at h
    by_cases g : (decide (lo ≤ vl B N p) && decide (vl B N p ≤ hi)) = true
    · rw [if_pos g] at h
      injection h with h
      rw [Bool.and_eq_true, decide_eq_true_eq, decide_eq_true_eq] at g
      rw [← h]
      exact ⟨e, rfl, g⟩
    · rw [if_neg g] at h; cases h
  · rw [if_neg e] at h; cases h
theorem sgn_sp {B : Nat → Int32} {N p : Nat} {most : Int32} {x : Int32 × Nat} (h : sgn B N p most = .ok x) : p < x.2 ∧ x.2 ≤ N ∧ ∃ v, 0 ≤ v ∧ v ≤ most ∧ (x.1 = v ∨ x.1 = -v) := by
  unfold sgn at h
  by_cases e : kd B N p = 4
  · rw [if_pos e] at h
    cases g : nIn B N (sp B N p) 0 most with
    | error e => rw [g] at h; cases h
    | ok y =>
      rw [g] at h
      injection h with h
      obtain ⟨k1, k2, k3, k4⟩ := nIn_sp g
      have a1 := sp_gt (B := B) (N := N) (p := p) (by omega)
      have a2 := sp_gt (B := B) (N := N) (p := sp B N p) (by omega)
      rw [← h]
      dsimp only
      refine ⟨?_, ?_, y.1, k3, k4, Or.inr rfl⟩
      · rw [k2]; dsimp only; omega
      · rw [k2]; dsimp only; omega
  · rw [if_neg e] at h
    obtain ⟨k1, k2, k3, k4⟩ := nIn_sp h
    have a1 := sp_gt (B := B) (N := N) (p := p) (by omega)
    refine ⟨?_, ?_, x.1, k3, k4, Or.inl rfl⟩
    · rw [k2]; exact a1.1
    · rw [k2]; exact a1.2.2
theorem sgs_p {B : Nat → Int32} {N base p : Nat} {most : Int32} {f : Nat → Int32} (hp : p ≤ N) : ∀ {k : Nat} {x : Nat × (Nat → Int32)}, sgs B N base most p f k = .ok x → p ≤ x.1 ∧ x.1 ≤ N := by
  intro k
  induction k with
  | zero => intro x h; rw [sgs] at h; injection h with h; rw [← h]; exact ⟨Nat.le_refl _, hp⟩
  | succ k ih =>
    intro x h
    rw [sgs] at h
    cases g : sgs B N base most p f k with
    | error e => rw [g] at h; cases h
    | ok y =>
      rw [g] at h
      dsimp only at h
      cases g2 : sgn B N y.1 most with
      | error e => rw [g2] at h; cases h
      | ok z =>
        rw [g2] at h
        injection h with h
        have h1 := ih g
        have h2 := sgn_sp g2
        rw [← h]
        dsimp only
        omega
/-- what holds of a draft -/
def dS (B : Nat → Int32) (N : Nat) (s : PSt) : Prop := s.1 ≤ N ∧ 1 ≤ s.2.2.1 ∧ s.2.2.1 ≤ 3 ∧ s.2.2.2.1.length ≤ 8 ∧ ∀ w ∈ s.2.2.2.1, (∀ x ∈ w, 1 ≤ x ∧ x < 256) ∧ pkR w < 2 ^ 64
theorem bodL_sp {B : Nat → Int32} {N : Nat} {s x : PSt} (hs : dS B N s) (h : bodL B N s = .ok x) : dS B N x ∧ s.1 < x.1 := by
  obtain ⟨d1, d2, d3, d4, d5⟩ := hs
  have one : ∀ w, isK B N s.1 w = true → s.1 < sp B N s.1 ∧ sp B N s.1 ≤ N := fun w hw => by
    unfold isK at hw
    rw [Bool.and_eq_true, decide_eq_true_eq] at hw
    have := sp_gt (B := B) (N := N) (p := s.1) (by omega)
    exact ⟨this.1, this.2.2⟩
  unfold bodL at h
  by_cases k1 : isK B N s.1 wRows = true
  · have o := one _ k1
    rw [if_pos k1] at h
    unfold rowL at h
    by_cases g : s.2.2.2.2.1 = true
    · rw [if_pos g] at h; cases h
    · rw [if_neg g] at h
      cases g2 : nIn B N (sp B N s.1) 1 3 with
      | error e => rw [g2] at h; cases h
      | ok y =>
        rw [g2] at h
        injection h with h
        obtain ⟨q1, q2, q3, q4⟩ := nIn_sp g2
        have a2 := sp_gt (B := B) (N := N) (p := sp B N s.1) (by omega)
        obtain ⟨v, hv, ev⟩ := nI_of2 (M := 3) (n := 3) rfl (fun g => absurd (Int32.lt_of_le_of_lt q3 g) (by decide)) q4
        have hv2 := (nI_leI (a := 1) (b := v) (by omega) (by omega)).mp (by rw [← ev]; exact q3)
        have e2 : y.2 = sp B N (sp B N s.1) := by rw [q2]
        rw [← h]
        refine ⟨⟨?_, ?_, ?_, d4, d5⟩, ?_⟩
        · dsimp only; omega
        · dsimp only; rw [ev, ix_nI (by omega)]; exact hv2
        · dsimp only; rw [ev, ix_nI (by omega)]; exact hv
        · dsimp only; omega
  · rw [if_neg k1] at h
    by_cases k2 : isK B N s.1 wColumn = true
    · have o := one _ k2
      rw [if_pos k2] at h
      unfold colL at h
      by_cases g1 : s.2.2.2.1.length = 8
      · rw [if_pos g1] at h; cases h
      · rw [if_neg g1] at h
        by_cases g2 : kd B N (sp B N s.1) ≠ 1 ∨ wd B N (sp B N s.1) ∈ wAll
        · rw [if_pos g2] at h; cases h
        · rw [if_neg g2] at h
          by_cases g3 : wd B N (sp B N s.1) ∈ s.2.2.2.1
          · rw [if_pos g3] at h; cases h
          · rw [if_neg g3] at h
            have hk : kd B N (sp B N s.1) = 1 := by
              by_cases g : kd B N (sp B N s.1) = 1
              · exact g
              · exact absurd (Or.inl g) g2
            have a2 := sp_gt (B := B) (N := N) (p := sp B N s.1) (by omega)
            cases g4 : sgs B N (3 * s.2.2.2.1.length) 5 (sp B N (sp B N s.1)) s.2.1 s.2.2.1 with
            | error e => rw [g4] at h; cases h
            | ok y =>
              rw [g4] at h
              dsimp only at h
              have a3 := sgs_p (by omega) g4
              by_cases g5 : isK B N y.1 wGain = true
              · rw [if_pos g5] at h
                unfold isK at g5
                rw [Bool.and_eq_true, decide_eq_true_eq] at g5
                have a4 := sp_gt (B := B) (N := N) (p := y.1) (by omega)
                cases g6 : sgn B N (sp B N y.1) 99 with
                | error e => rw [g6] at h; cases h
                | ok z =>
                  rw [g6] at h
                  injection h with h
                  have a5 := sgn_sp g6
                  rw [← h]
                  refine ⟨⟨?_, d2, d3, ?_, fun w hw => ?_⟩, ?_⟩
                  · dsimp only; omega
                  · dsimp only; rw [List.length_append, List.length_singleton]; omega
                  · dsimp only at hw
                    rcases List.mem_append.mp hw with hw | hw
                    · exact d5 w hw
                    · rw [List.mem_singleton] at hw
                      rw [hw]
                      exact wd_pk hk
                  · dsimp only; omega
              · rw [if_neg g5] at h; cases h
    · rw [if_neg k2] at h
      by_cases k3 : isK B N s.1 wNeed = true
      · have o := one _ k3
        rw [if_pos k3] at h
        unfold needL at h
        by_cases g : s.2.2.2.2.2.1 = true
        · rw [if_pos g] at h; cases h
        · rw [if_neg g] at h
          cases g4 : sgs B N 32 20 (sp B N s.1) s.2.1 s.2.2.1 with
          | error e => rw [g4] at h; cases h
          | ok y =>
            rw [g4] at h
            injection h with h
            have a3 := sgs_p (by omega) g4
            rw [← h]
            exact ⟨⟨a3.2, d2, d3, d4, d5⟩, by dsimp only; omega⟩
      · rw [if_neg k3] at h
        by_cases k4 : isK B N s.1 wSteps = true
        · have o := one _ k4
          rw [if_pos k4] at h
          unfold stepL at h
          by_cases g : s.2.2.2.2.2.2 = true
          · rw [if_pos g] at h; cases h
          · rw [if_neg g] at h
            cases g2 : nIn B N (sp B N s.1) 1 12 with
            | error e => rw [g2] at h; cases h
            | ok y =>
              rw [g2] at h
              injection h with h
              obtain ⟨q1, q2, q3, q4⟩ := nIn_sp g2
              have a2 := sp_gt (B := B) (N := N) (p := sp B N s.1) (by omega)
              have e2 : y.2 = sp B N (sp B N s.1) := by rw [q2]
              rw [← h]
              exact ⟨⟨by dsimp only; omega, d2, d3, d4, d5⟩, by dsimp only; omega⟩
        · rw [if_neg k4] at h; cases h
theorem lineL_sp {B : Nat → Int32} {N : Nat} {s x : PSt} (hs : dS B N s) (h : lineL B N s = .ok x) : dS B N x ∧ s.1 < x.1 := by
  unfold lineL at h
  cases g : bodL B N s with
  | error e => rw [g] at h; cases h
  | ok y =>
    rw [g] at h
    dsimp only at h
    obtain ⟨⟨d1, d2⟩, d3⟩ := bodL_sp hs g
    by_cases k : kd B N y.1 = 3
    · rw [if_pos k] at h
      injection h with h
      have a := sp_gt (B := B) (N := N) (p := y.1) (by omega)
      rw [← h]
      exact ⟨⟨a.2.2, d2⟩, by dsimp only; omega⟩
    · rw [if_neg k] at h; cases h
