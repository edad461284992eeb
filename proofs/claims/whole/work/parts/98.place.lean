/-! ===== places of faults lie in the text ===== -/
def je_bd {A : Type} (n : Nat) (pos : A → Nat) (x : Sum (Int × Int) A) : Prop := (∀ e, x = .inl e → (0 ≤ e.1 ∧ e.1 ≤ 5) ∧ 0 ≤ e.2 ∧ e.2 ≤ (n : Int) + 10) ∧ ∀ a, x = .inr a → pos a ≤ n
section
variable {A : Type} {n : Nat} {t : Nat → Int} {pos : A → Nat}
theorem je_bi {c : Prop} {a b : Sum (Int × Int) A} (h1 : c → je_bd n pos a) (h2 : ¬ c → je_bd n pos b) : je_bd n pos (jx_if c a b) := by
  by_cases q : c
  · rw [jx_ifp q]; exact h1 q
  · rw [jx_ifn q]; exact h2 q
theorem je_bt {c : Prop} [Decidable c] {a b : Sum (Int × Int) A} (h1 : c → je_bd n pos a) (h2 : ¬ c → je_bd n pos b) : je_bd n pos (if c then a else b) := by
  by_cases q : c
  · rw [if_pos q]; exact h1 q
  · rw [if_neg q]; exact h2 q
theorem je_bl {k : Int} {p : Nat} (hk : 0 ≤ k ∧ k ≤ 5) (hp : p ≤ n + 10) : je_bd n pos (.inl (k, ((p : Nat) : Int)) : Sum (Int × Int) A) := ⟨fun e he => by cases he; exact ⟨hk, by show (0 : Int) ≤ (p : Int); omega, by show (p : Int) ≤ (n : Int) + 10; omega⟩, fun a ha => by cases ha⟩
theorem je_bz : je_bd n pos (.inl (0, 0) : Sum (Int × Int) A) := ⟨fun e he => by cases he; exact ⟨by decide, by show (0 : Int) ≤ 0; decide, by show (0 : Int) ≤ (n : Int) + 10; omega⟩, fun a ha => by cases ha⟩
theorem je_br {a : A} (h : pos a ≤ n) : je_bd n pos (.inr a) := ⟨fun e he => (by cases he), fun b hb => (by cases hb; exact h)⟩
theorem je_bb {B : Type} {pos' : B → Nat} {x : Sum (Int × Int) B} {f : B → Sum (Int × Int) A} (h : je_bd n pos' x) (h2 : ∀ b, pos' b ≤ n → je_bd n pos (f b)) : je_bd n pos (jx_bd x f) := by
  cases x with
  | inl e => exact ⟨fun e' he => by cases he; exact h.1 _ rfl, fun a ha => by cases ha⟩
  | inr b => exact h2 b (h.2 b rfl)
theorem je_ps {b : Nat} (hb : b ≤ n) : jx_st n t b ≤ n + 10 := by have := (jx_stb (t := t) hb).2; omega
theorem je_p4 {b k : Nat} (hb : b ≤ n) (hk : k ≤ 10) : jx_st n t b + k ≤ n + 10 := by have := (jx_stb (t := t) hb).2; omega
theorem je_pw {b : Nat} (hb : b ≤ n) : jx_we n t b ≤ n := (jx_wes t hb).2.1
end
def je_R (n : Nat) (x : jx_R) : Prop := je_bd n (fun s : Nat × Bool × qm_M => s.1) x
def je_N (n : Nat) (x : Sum (Int × Int) (Nat × Int)) : Prop := je_bd n (fun s : Nat × Int => s.1) x
section
variable {n : Nat} {t : Nat → Int}
theorem je_nmq {b : Nat} {m : Bool} (hb : b ≤ n) : je_N n (jx_nmq n t b m) := by
  unfold jx_nmq
  exact je_bi (fun _ => je_bi (fun _ => je_br (je_pw hb)) fun _ => je_bl (by decide) (je_p4 hb (by decide))) fun _ => je_bl (by decide) (je_ps hb)
theorem je_knq {b c : Nat} {m : Bool} {N : Nat → Int} (hb : b ≤ n) : je_N n (jx_knq n t b m N c) := by
  unfold jx_knq
  exact je_bb (je_nmq hb) fun r hr => je_bt (fun _ => je_bl (by decide) (je_ps hb)) fun _ => je_br hr
theorem je_newq {b : Nat} {m : Bool} {D : qm_M} (hb : b ≤ n) : je_N n (jx_newq n t b m D) := by
  unfold jx_newq
  exact je_bb (je_nmq hb) fun r hr => je_bt (fun _ => je_br hr) fun _ => je_bl (by decide) (je_ps hb)
theorem je_pkq {b : Nat} {m : Bool} {D : qm_M} {how : Int} (hb : b ≤ n) : je_R n (jx_pkq n t b m D how) := by
  unfold jx_pkq
  exact je_bb (je_knq hb) fun r hr => je_br hr
theorem je_ltq {b : Nat} {m : Bool} {D : qm_M} (hb : b ≤ n) : je_R n (jx_ltq n t b m D) := by
  unfold jx_ltq
  exact je_bi (fun _ => je_pkq (je_pw hb)) fun _ => je_bi (fun _ => je_bi (fun _ => je_pkq (je_pw hb)) fun _ => je_br (je_pw hb)) fun _ => je_bl (by decide) (je_ps hb)
theorem je_turn : ∀ (F : Nat) (w : Bool) (o : Nat) (s : Nat × Bool × qm_M), s.1 ≤ n → je_R n (jx_turn n t F w o s)
  | 0, _, _, _, _ => je_bz
  | F + 1, false, o, s, hb => by
    have ih := je_turn F
    unfold jx_turn
    exact je_bi (fun _ => je_bi (fun _ => je_bl (by decide) (je_ps hb)) fun _ => je_bb (ih false (o + 1) _ (je_pw hb)) fun s1 h1 => je_br h1) fun _ => je_bi (fun z => je_bi (fun _ => je_bl (by decide) (je_ps hb)) fun _ => je_bb (ih false (o + 1) _ z.1) fun s1 h1 => ih true o s1 h1) fun _ => je_ltq hb
  | F + 1, true, o, s, hb => by
    have ih := je_turn F
    unfold jx_turn
    exact je_bi (fun _ => je_bb (ih false (o + 1) s hb) fun s1 h1 => ih true o s1 h1) fun _ => je_bi (fun z => je_br z.1) fun _ => je_bl (by decide) (je_ps hb)
theorem je_colq {b : Nat} {D : qm_M} (hb : b ≤ n) : je_R n (jx_colq n t b D) := by
  unfold jx_colq
  exact je_bt (fun _ => je_bl (by decide) (je_ps hb)) fun _ => je_bb (je_newq (je_pw hb)) fun r hr => je_br hr
theorem je_cor : ∀ (k b : Nat) (D : qm_M), b ≤ n → je_R n (jx_cor n t k b D)
  | 0, b, D, hb => je_br hb
  | k + 1, b, D, hb => je_bb (je_knq hb) fun r hr => je_cor k r.1 _ hr
theorem je_sidq {b : Nat} {D : qm_M} {x : Int} (hb : b ≤ n) : je_R n (jx_sidq n t b D x) := by
  unfold jx_sidq
  exact je_bi (fun _ => je_bb (je_cor _ _ _ (je_pw hb)) fun s hs => je_br hs) fun _ => je_bl (by decide) (je_ps hb)
theorem je_crdq {b : Nat} {D : qm_M} (hb : b ≤ n) : je_R n (jx_crdq n t b D) := by
  unfold jx_crdq
  exact je_bt (fun _ => je_bl (by decide) (je_ps hb)) fun _ => je_bb (je_newq (je_pw hb)) fun r hr => je_bi (fun _ => je_sidq (je_pw hr)) fun _ => je_bl (by decide) (je_ps hr)
theorem je_pc {b : Nat} {D : qm_M} (hb : b ≤ n) : je_R n (jx_pc n t b D) := by
  unfold jx_pc
  exact je_bb (je_knq hb) fun r hr => je_bt (fun _ => je_bl (by decide) (je_ps hb)) fun _ => je_br hr
theorem je_pks : ∀ (F b : Nat) (D : qm_M), b ≤ n → je_R n (jx_pks n t F b D)
  | 0, _, _, _ => je_bz
  | F + 1, b, D, hb => by
    unfold jx_pks
    exact je_bi (fun _ => je_bb (je_pc hb) fun s hs => je_pks F s.1 _ hs) fun _ => je_br hb
theorem je_pckq {b : Nat} {D : qm_M} (hb : b ≤ n) : je_R n (jx_pckq n t b D) := by
  unfold jx_pckq
  exact je_bt (fun _ => je_bl (by decide) (je_ps hb)) fun _ => je_bb (je_newq (je_pw hb)) fun r hr => je_bb (je_pc hr) fun s hs => je_bb (je_pks _ _ _ hs) fun s2 hs2 => je_br hs2
theorem je_twsq {b : Nat} {D : qm_M} (hb : b ≤ n) : je_R n (jx_twsq n t b D) := by
  unfold jx_twsq
  exact je_bi (fun _ => je_bt (fun _ => je_bt (fun _ => je_br (jx_des t hb).2.1) fun _ => je_bl (by decide) (je_ps hb)) fun _ => je_bl (by decide) (je_p4 hb (by decide))) fun _ => je_bl (by decide) (je_ps hb)
theorem je_tns : ∀ (F : Nat) (s : Nat × Bool × qm_M), s.1 ≤ n → je_R n (jx_tns n t F s)
  | 0, _, _ => je_bz
  | F + 1, s, hb => by
    unfold jx_tns
    exact je_bb (je_turn _ _ _ s hb) fun s1 h1 => je_bt (fun _ => je_bl (by decide) (je_ps hb)) fun _ => je_bi (fun _ => je_tns F s1 h1) fun _ => je_br h1
theorem je_wvq {b : Nat} {D : qm_M} (hb : b ≤ n) : je_R n (jx_wvq n t b D) := by
  unfold jx_wvq
  exact je_bt (fun _ => je_tns _ _ (je_pw hb)) fun _ => je_bl (by decide) (je_ps hb)
theorem je_stq {b : Nat} {m : Bool} {D : qm_M} (hb : b ≤ n) : je_R n (jx_stq n t b m D) := by
  unfold jx_stq
  exact je_bi (fun _ => je_colq hb) fun _ => je_bi (fun _ => je_crdq hb) fun _ => je_bi (fun _ => je_pckq hb) fun _ => je_bi (fun _ => je_twsq (je_pw hb)) fun _ => je_bi (fun _ => je_wvq hb) fun _ => je_bl (by decide) (je_ps hb)
theorem je_semq {s : Nat × Bool × qm_M} (hb : s.1 ≤ n) : je_R n (jx_semq n t s) := by
  unfold jx_semq
  exact je_bi (fun z => je_br z.1) fun _ => je_bl (by decide) (je_ps hb)
theorem je_txq : ∀ (F : Nat) (s : Nat × Bool × qm_M), s.1 ≤ n → je_R n (jx_txq n t F s)
  | 0, _, _ => je_bz
  | F + 1, s, hb => by
    unfold jx_txq
    exact je_bt (fun _ => je_br hb) fun _ => je_bt (fun _ => je_bl (by decide) (je_ps hb)) fun _ => je_bb (je_bb (je_stq hb) fun s1 h1 => je_semq h1) fun s1 h1 => je_txq F s1 h1
theorem je_qsb : ∀ (F md o : Nat) (s : Nat × Bool × qm_M), s.1 ≤ n → je_R n (jx_qs n t F md o s)
  | 0, _, _, _, _ => je_bz
  | F + 1, 0, o, s, hb => by
    have ih := je_qsb F
    have sum : ∀ s0 : Nat × Bool × qm_M, s0.1 ≤ n → je_R n (jx_bd (jx_bd (jx_qs n t F 0 (o + 1) s0) (jx_qs n t F 1 (o + 1))) (jx_qs n t F 2 (o + 1))) := fun s0 h0 => je_bb (je_bb (ih 0 (o + 1) s0 h0) fun s1 h1 => ih 1 (o + 1) s1 h1) fun s1 h1 => ih 2 (o + 1) s1 h1
    unfold jx_qs
    exact je_bi (fun _ => je_bt (fun _ => je_br (jx_des t hb).2.1) fun _ => je_bl (by decide) (je_p4 hb (by decide))) fun _ => je_bi (fun _ => je_br (je_pw hb)) fun _ => je_bi (fun _ => je_br (je_pw hb)) fun _ => je_bi (fun _ => je_br (je_pw hb)) fun _ => je_bi (fun _ => je_bi (fun z => je_bt (fun _ => je_bl (by decide) (je_ps (je_pw hb))) fun _ => je_bb (sum _ z.1) fun s1 h1 => je_bi (fun z1 => je_bb (sum _ z1.1) fun s2 h2 => je_bi (fun z2 => je_br z2.1) fun _ => je_bl (by decide) (je_ps h2)) fun _ => je_bl (by decide) (je_ps h1)) fun _ => je_bl (by decide) (je_ps (je_pw hb))) fun _ => je_bi (fun _ => je_bt (fun _ => je_bl (by decide) (je_ps hb)) fun _ => je_bb (ih 0 (o + 1) _ (je_pw hb)) fun s1 h1 => je_br h1) fun _ => je_bi (fun z => je_bt (fun _ => je_bl (by decide) (je_ps hb)) fun _ => je_bb (sum _ z.1) fun s1 h1 => je_bi (fun z1 => je_br z1.1) fun _ => je_bl (by decide) (je_ps h1)) fun _ => je_bl (by decide) (je_ps hb)
  | F + 1, 1, o, s, hb => by
    have ih := je_qsb F
    unfold jx_qs
    exact je_bi (fun z => je_bb (ih 0 o _ (by rcases z with z | z; exact z.1; exact z.1)) fun s1 h1 => ih 1 o _ h1) fun _ => je_br hb
  | F + 1, md + 2, o, s, hb => by
    have ih := je_qsb F
    unfold jx_qs
    exact je_bi (fun z => je_bb (je_bb (ih 0 o _ (by rcases z with z | z; exact z.1; exact z.1)) fun s1 h1 => ih 1 o s1 h1) fun s1 h1 => ih 2 o _ h1) fun _ => je_br hb
theorem je_sumb {F o : Nat} {s : Nat × Bool × qm_M} (hb : s.1 ≤ n) : je_R n (jx_sum n t F o s) := by
  unfold jx_sum
  exact je_bb (je_bb (je_qsb _ _ _ _ hb) fun s1 h1 => je_qsb _ _ _ _ h1) fun s1 h1 => je_qsb _ _ _ _ h1
theorem je_cqb {o : Nat} {s : Nat × Bool × qm_M} (hb : s.1 ≤ n) : je_R n (jx_cq n t o s) := by
  unfold jx_cq
  exact je_bb (je_sumb hb) fun s1 h1 => je_bi (fun z => je_bb (je_sumb (by rcases z with z | z | z; exact z.1; exact z.1; exact z.1)) fun s2 h2 => je_br h2) fun _ => je_bl (by decide) (je_ps h1)
theorem je_qeb : ∀ (F md o : Nat) (s : Nat × Bool × qm_M), s.1 ≤ n → je_R n (jx_qe n t F md o s)
  | 0, _, _, _, _ => je_bz
  | F + 1, 0, o, s, hb => by
    have ih := je_qeb F
    unfold jx_qe
    exact je_bi (fun _ => je_br (je_pw hb)) fun _ => je_bi (fun _ => je_bt (fun _ => je_bl (by decide) (je_ps hb)) fun _ => je_bb (ih 0 (o + 1) _ (je_pw hb)) fun s1 h1 => je_br h1) fun _ => je_bi (fun z => je_bt (fun _ => je_bl (by decide) (je_ps hb)) fun _ => je_bb (je_bb (je_bb (ih 0 (o + 1) _ z.1) fun s1 h1 => ih 1 (o + 1) s1 h1) fun s1 h1 => ih 2 (o + 1) s1 h1) fun s1 h1 => je_bi (fun z1 => je_br z1.1) fun _ => je_bl (by decide) (je_ps h1)) fun _ => je_cqb hb
  | F + 1, 1, o, s, hb => by
    have ih := je_qeb F
    unfold jx_qe
    exact je_bi (fun _ => je_bb (ih 0 o _ (je_pw hb)) fun s1 h1 => ih 1 o _ h1) fun _ => je_br hb
  | F + 1, md + 2, o, s, hb => by
    have ih := je_qeb F
    unfold jx_qe
    exact je_bi (fun _ => je_bb (je_bb (ih 0 o _ (je_pw hb)) fun s1 h1 => ih 1 o s1 h1) fun s1 h1 => ih 2 o _ h1) fun _ => je_br hb
theorem je_askb {D : qm_M} : je_R n (jx_ask n t D) := by
  have h0 : jx_we n t 0 ≤ n := je_pw (Nat.zero_le n)
  unfold jx_ask jx_tst
  exact je_bt (fun _ => je_bl (by decide) (je_ps (Nat.zero_le n))) fun _ => je_bb (je_bt (fun _ => je_bb (je_bb (je_qeb _ _ _ _ h0) fun s1 h1 => je_qeb _ _ _ _ h1) fun s1 h1 => je_qeb _ _ _ _ h1) fun _ => je_sumb h0) fun s hs => je_bt (fun _ => je_br hs) fun _ => je_bl (by decide) (je_ps hs)
end
