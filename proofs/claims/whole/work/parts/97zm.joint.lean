/-! Class and reference side by side -/
variable {h : Hp}
abbrev MA : List Nat := [81, 82, 83, 84, 85, 86, 87, 88, 89, 90, 91, 92, 93, 94, 95, 96, 97, 98, 99, 100, 101, 102, 103, 104, 105, 106, 107, 108, 109, 110, 111, 112, 113, 114, 115, 116, 117, 118, 119]
abbrev CA : List Nat := [16, 17, 18, 19, 20, 21, 22, 23, 24, 25, 26, 27, 28, 29, 30, 31, 32, 33, 34, 35, 36, 37, 38, 39, 40, 41, 42, 43, 44, 45, 46, 47, 48, 49, 50, 51, 52, 53, 54, 55, 56, 57, 58, 59, 60, 61, 62, 63, 64, 65, 66, 67, 68, 69, 70, 71, 72, 73, 74, 75, 76, 77, 78, 79, 80]
/-- numbers as they can be -/
def OF (r n : Nat) (f : Nat → Int32) : Prop := FB f n ∧ NB f ∧ GB f n ∧ ZB f r ∧ HB f n ∧ (∃ st, st ≤ 12 ∧ f 35 = nI st) ∧ ∀ j, 44 ≤ j → f j = 0
def BXx (r n : Nat) (o : Option (Nat → Int32)) (β : Nat) (h : Hp) : Prop := match o with
  | none => gI h 29 β = 0
  | some c => gI h 29 β = 1 ∧ gI h (77 + 2 * β) 1 = nI r ∧ gI h (77 + 2 * β) 2 = nI n ∧ ∀ j, j < 44 → gI h (78 + 2 * β) j = c j
def BXm (o : Option (Nat → Int32)) (β : Nat) (h : Hp) : Prop := match o with
  | none => gI h 119 β = 0
  | some c => gI h 119 β = 1 ∧ ∀ j, j < 44 → gI h 118 (44 * β + j) = c j
/-- the past as the reference has it -/
def PA (gg : Nat → Nat → Int32) (A U : Nat) (h : Hp) : Prop := ∀ k j, k < A + U → j < 44 → gI h 87 (44 * k + j) = if k < A then gg k j else gg (k + 1) j
def KA (f : Nat → Int32) (r n b ρ a : Nat) (h : Hp) : Prop := (∃ st, st ≤ 12 ∧ f 35 = nI st ∧ KO f r n st b h) ∧ KK f n b h ∧ KE f r n b h ∧ KD f r n b h ∧ KZ f r n b ρ a h
/-- the rest of the class: text, knowledge, time, faults, boxes -/
def JR (f : Nat → Int32) (r n : Nat) (gg : Nat → Nat → Int32) (fi A U : Nat) (K : KT) (s : Nat) (tm : Int32) (N : Nat) (B : Nat → Int32) (e1 e2 : Int32) (bx : Nat → Option (Nat → Int32)) (h : Hp) : Prop := AR gg n fi A U h ∧ CTd K.1 r n h ∧ KX K r n s h ∧ gI h 71 7 = tm ∧ gI h 17 1 = nI N ∧ (∀ i, i < N → gI h 18 i = B i) ∧ gI h 23 6 = e1 ∧ gI h 23 7 = e2 ∧ ∀ β, β ≤ 1 → BXx r n (bx β) β h
def JC (f : Nat → Int32) (r n : Nat) (gg : Nat → Nat → Int32) (fi A U : Nat) (K : KT) (s : Nat) (tm : Int32) (N : Nat) (B : Nat → Int32) (e1 e2 : Int32) (bx : Nat → Option (Nat → Int32)) (b ρ a : Nat) (h : Hp) : Prop := CN f r n h ∧ 120 ≤ gX h ∧ gI h 21 3 = nI b ∧ KA f r n b ρ a h ∧ JR f r n gg fi A U K s tm N B e1 e2 bx h
/-- the reference -/
def JM (f : Nat → Int32) (r n : Nat) (gg : Nat → Nat → Int32) (fi A U : Nat) (K : KT) (s : Nat) (tm : Int32) (N : Nat) (B : Nat → Int32) (e1 e2 : Int32) (bx : Nat → Option (Nat → Int32)) (h : Hp) : Prop := Mrc h r n ∧ gI h 86 = f ∧ SV f r n h ∧ gI h 81 24 = nI A ∧ gI h 81 25 = nI U ∧ PA gg A U h ∧ KS h s ∧ kn h = K ∧ gI h 81 74 = tm ∧ gI h 81 1 = nI N ∧ (∀ i, i < N → gI h 82 i = B i) ∧ gI h 81 9 = e1 ∧ gI h 81 10 = e2 ∧ ∀ β, β ≤ 1 → BXm (bx β) β h
/-- what holds of what both hold -/
def JP (f : Nat → Int32) (r n : Nat) (gg : Nat → Nat → Int32) (fi A U : Nat) (K : KT) (s : Nat) (tm : Int32) (N : Nat) (B : Nat → Int32) (e1 e2 : Int32) (bx : Nat → Option (Nat → Int32)) : Prop := OF r n f ∧ gg A = f ∧ (∀ k, k ≤ A + U → OF r n (gg k)) ∧ (∀ β c, bx β = some c → OF r n c) ∧ N ≤ 700 ∧ ∀ i, i < N → 0 ≤ B i
theorem fx_M {as fs js gs : List Nat} {h' : Hp} (a : Fr as fs js gs h h') (h1 : ∀ x ∈ as, x ∈ MA) (h2 : ∀ x ∈ js, x ∈ MA) : Fx MA MA h h' :=
  ⟨fr_K a, fr_N a, fr_X a, fun x k _ => by rw [fr_R a], fun x k hx => a.2.1 x k (fun g => hx (h1 x g)) (fun e => absurd (show x ∈ MA by rw [e]; decide) hx), fun x k hx => a.2.2 x k (fun g => hx (h2 x g)) (fun e => absurd (show x ∈ MA by rw [e]; decide) hx)⟩
theorem KA_fx {f : Nat → Int32} {r n b ρ a : Nat} {as js : List Nat} {h' : Hp} (k : KA f r n b ρ a h) (x : Fx as js h h') (h50 : 50 ∉ as) (h51 : 51 ∉ as) (h53 : 53 ∉ as) (h56 : 56 ∉ as) (j56 : 56 ∉ js) (j59 : 59 ∉ js) (h60 : 60 ∉ as) (h62 : 62 ∉ as) (h63 : 63 ∉ as) (h64 : 64 ∉ as) (h65 : 65 ∉ as) (h66 : 66 ∉ as) (h42 : 42 ∉ as) (h43 : 43 ∉ as) (h44 : 44 ∉ as) (j42 : 42 ∉ js) (j46 : 46 ∉ js) (j49 : 49 ∉ js) (j : ∀ y, y ∈ js → y < 120) : KA f r n b ρ a h' := by
  obtain ⟨⟨st, s1, s2, s3⟩, k2, k3, k4, k5⟩ := k
  exact ⟨⟨st, s1, s2, KO_fx s3 x h50 h51 h53⟩, KK_fx k2 x h56 j56 j59, KE_fx k3 x h60 h62 h63 h64, KD_fx k4 x h65 h66, KZ_fx k5 x h42 h43 h44 j42 j46 j49 j⟩
theorem BXx_eq {r n β : Nat} {o : Option (Nat → Int32)} {h' : Hp} (k : BXx r n o β h) (e1 : gI h' 29 = gI h 29) (e2 : gI h' (77 + 2 * β) = gI h (77 + 2 * β)) (e3 : gI h' (78 + 2 * β) = gI h (78 + 2 * β)) : BXx r n o β h' := by
  unfold BXx at k ⊢
  rw [e1, e2, e3]
  exact k
theorem JR_fx {f : Nat → Int32} {r n : Nat} {gg : Nat → Nat → Int32} {fi A U : Nat} {K : KT} {s : Nat} {tm : Int32} {N : Nat} {B : Nat → Int32} {e1 e2 : Int32} {bx : Nat → Option (Nat → Int32)} {as js : List Nat} {h' : Hp} (k : JR f r n gg fi A U K s tm N B e1 e2 bx h) (x : Fx as js h h') (hn : n ≤ 8) (h30 : 30 ∉ as) (h31 : 31 ∉ as) (h32 : 32 ∉ as) (h33 : 33 ∉ as) (h34 : 34 ∉ as) (h19 : 19 ∉ as) (h20 : 20 ∉ as) (h71 : 71 ∉ as) (h72 : 72 ∉ as) (h73 : 73 ∉ as) (h74 : 74 ∉ as) (h17 : 17 ∉ as) (h18 : 18 ∉ as) (h23 : 23 ∉ as) (h29 : 29 ∉ as) (h77 : 77 ∉ as) (h78 : 78 ∉ as) (h79 : 79 ∉ as) (h80 : 80 ∉ as) : JR f r n gg fi A U K s tm N B e1 e2 bx h' := by
  obtain ⟨k1, k2, k3, k4, k5, k6, k7, k8, k9⟩ := k
  refine ⟨AR_fx hn k1 x h30 h31 h32 h33 h34, CTd_fx k2 x h19 h20, KX_fx k3 x h71 h72 h73 h74, by rw [fx_I x h71]; exact k4, by rw [fx_I x h17]; exact k5, by rw [fx_I x h18]; exact k6, by rw [fx_I x h23]; exact k7, by rw [fx_I x h23]; exact k8, fun β hβ => ?_⟩
  match β, hβ with
  | 0, _ => exact BXx_eq (k9 0 (by decide)) (fx_I x h29) (fx_I x h77) (fx_I x h78)
  | 1, _ => exact BXx_eq (k9 1 (by decide)) (fx_I x h29) (fx_I x h79) (fx_I x h80)
set_option maxRecDepth 4000 in
theorem JC_M {f : Nat → Int32} {r n : Nat} {gg : Nat → Nat → Int32} {fi A U : Nat} {K : KT} {s : Nat} {tm : Int32} {N : Nat} {B : Nat → Int32} {e1 e2 : Int32} {bx : Nat → Option (Nat → Int32)} {b ρ a : Nat} {h' : Hp} (k : JC f r n gg fi A U K s tm N B e1 e2 bx b ρ a h) (x : Fx MA MA h h') : JC f r n gg fi A U K s tm N B e1 e2 bx b ρ a h' := by
  obtain ⟨k1, k2, k3, k4, k5⟩ := k
  have hn := k1.2.1.2.2.2.2.2
  exact ⟨CN_fx k1 x (by decide) (by decide), by rw [x.2.2.1]; exact k2, by rw [fx_I x (by decide)]; exact k3, KA_fx k4 x (by decide) (by decide) (by decide) (by decide) (by decide) (by decide) (by decide) (by decide) (by decide) (by decide) (by decide) (by decide) (by decide) (by decide) (by decide) (by decide) (by decide) (by decide) (by decide), JR_fx k5 x hn (by decide) (by decide) (by decide) (by decide) (by decide) (by decide) (by decide) (by decide) (by decide) (by decide) (by decide) (by decide) (by decide) (by decide) (by decide) (by decide) (by decide) (by decide) (by decide)⟩
theorem SV_eq {f : Nat → Int32} {r n : Nat} {h' : Hp} (k : SV f r n h) (e81 : gI h' 81 = gI h 81) (e93 : gI h' 93 = gI h 93) (e94 : gI h' 94 = gI h 94) (e95 : gI h' 95 = gI h 95) (e96 : gI h' 96 = gI h 96) (e97 : gL h' 97 = gL h 97) : SV f r n h' := by
  unfold SV CV LC HS W1 at k ⊢
  rw [e81, e93, e94, e95, e96, e97]
  exact k
theorem BXm_eq {o : Option (Nat → Int32)} {β : Nat} {h' : Hp} (k : BXm o β h) (e1 : gI h' 118 = gI h 118) (e2 : gI h' 119 = gI h 119) : BXm o β h' := by
  unfold BXm at k ⊢
  rw [e1, e2]
  exact k
set_option maxRecDepth 4000 in
theorem JM_X {f : Nat → Int32} {r n : Nat} {gg : Nat → Nat → Int32} {fi A U : Nat} {K : KT} {s : Nat} {tm : Int32} {N : Nat} {B : Nat → Int32} {e1 e2 : Int32} {bx : Nat → Option (Nat → Int32)} {h' : Hp} (k : JM f r n gg fi A U K s tm N B e1 e2 bx h) (x : Fz CA CA h h') : JM f r n gg fi A U K s tm N B e1 e2 bx h' := by
  have I : ∀ a, a < 120 → a ∉ CA → gI h' a = gI h a := fun a h1 h2 => fz_I x h1 h2
  obtain ⟨k1, k2, k3, k4, k5, k6, k7, k8, k9, k10, k11, k12, k13, k14⟩ := k
  have e81 := I 81 (by decide) (by decide)
  refine ⟨⟨fz_MS x k1.1, by rw [e81]; exact k1.2⟩, by rw [I 86 (by decide) (by decide)]; exact k2, SV_eq k3 e81 (I 93 (by decide) (by decide)) (I 94 (by decide) (by decide)) (I 95 (by decide) (by decide)) (I 96 (by decide) (by decide)) (fz_L x (by decide) (by decide)), by rw [e81]; exact k4, by rw [e81]; exact k5, ?_, ?_, ?_, by rw [e81]; exact k9, by rw [e81]; exact k10, by rw [I 82 (by decide) (by decide)]; exact k11, by rw [e81]; exact k12, by rw [e81]; exact k13, fun β hβ => BXm_eq (k14 β hβ) (I 118 (by decide) (by decide)) (I 119 (by decide) (by decide))⟩
  · unfold PA
    rw [I 87 (by decide) (by decide)]
    exact k6
  · unfold KS
    rw [e81, I 111 (by decide) (by decide)]
    exact k7
  · unfold kn
    rw [I 84 (by decide) (by decide), I 111 (by decide) (by decide), I 112 (by decide) (by decide), I 113 (by decide) (by decide), I 114 (by decide) (by decide), I 115 (by decide) (by decide)]
    exact k8
set_option maxRecDepth 4000 in
theorem fz_C {as js : List Nat} {h' : Hp} (x : Fx as js h h') (h1 : ∀ y ∈ as, y ∈ CA) (h2 : ∀ y ∈ js, y ∈ CA) : Fz CA CA h h' := fz_fx x (fun y hy _ => h1 y hy) (fun y hy _ => h2 y hy)
theorem KA_up {f f' : Nat → Int32} {r n r' n' b b' ρ a : Nat} (k : KA f r n b ρ a h) (hb : b < b') (hf : ∃ st, st ≤ 12 ∧ f' 35 = nI st) : KA f' r' n' b' ρ a h := by
  obtain ⟨⟨st, s1, s2, s3⟩, k2, k3, k4, k5⟩ := k
  obtain ⟨st', t1, t2⟩ := hf
  refine ⟨⟨st', t1, t2, ?_⟩, ?_, ?_, ?_, KZ_up k5 hb⟩
  · rcases s3 with q | ⟨c, q1, q2, q3⟩
    · exact Or.inl q
    · exact Or.inr ⟨c, by omega, q2, fun e => absurd e (by omega)⟩
  · rcases k2 with q | ⟨c, q1, q2, q3⟩
    · exact Or.inl q
    · exact Or.inr ⟨c, by omega, q2, fun e => absurd e (by omega)⟩
  · rcases k3 with q | ⟨c, mo, q1, q2, q3, q4, q5⟩
    · exact Or.inl q
    · exact Or.inr ⟨c, mo, by omega, q2, q3, q4, fun e => absurd e (by omega)⟩
  · rcases k4 with q | ⟨c, L, w, q1, q2, q3, q4, q5, q6, q7⟩
    · exact Or.inl q
    · exact Or.inr ⟨c, L, w, by omega, q2, q3, q4, q5, q6, fun e => absurd e (by omega)⟩
/-- a state of both, some changes counted, some room made -/
def JJ (c ρ : Nat) (h : Hp) : Prop := ∃ (f : Nat → Int32) (r n : Nat) (gg : Nat → Nat → Int32) (fi A U : Nat) (K : KT) (s : Nat) (tm : Int32) (N : Nat) (B : Nat → Int32) (e1 e2 : Int32) (bx : Nat → Option (Nat → Int32)) (b a : Nat), b ≤ c ∧ JC f r n gg fi A U K s tm N B e1 e2 bx b ρ a h ∧ JM f r n gg fi A U K s tm N B e1 e2 bx h ∧ JP f r n gg fi A U K s tm N B e1 e2 bx
