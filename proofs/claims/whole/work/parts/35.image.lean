/-! ===== images ===== -/
def jd_ck (o : Nat → Int) : Nat → Int
  | 0 => 113
  | n + 1 => (3 * jd_ck o n + o n) % 247
theorem jl_ck (o : Nat → Int) (n : Nat) : 0 ≤ jd_ck o n ∧ jd_ck o n < 247 := by
  cases n with
  | zero => exact ⟨by show (0 : Int) ≤ 113; decide, by show (113 : Int) < 247; decide⟩
  | succ n =>
    show 0 ≤ (3 * jd_ck o n + o n) % 247 ∧ (3 * jd_ck o n + o n) % 247 < 247
    omega
theorem jl_cke {o o' : Nat → Int} : ∀ n : Nat, (∀ i, i < n → o i = o' i) → jd_ck o n = jd_ck o' n
  | 0, _ => rfl
  | n + 1, h => by
    show (3 * jd_ck o n + o n) % 247 = (3 * jd_ck o' n + o' n) % 247
    rw [jl_cke n (fun i hi => h i (by omega)), h n (by omega)]
def jd_io0 (nc nr : Nat) (sd : Nat → Int) (th T : Nat → Nat → Int) (i : Nat) : Int :=
  if i = 0 then nr else if i < 1 + 5 * nc then (if (i - 1) % 5 = 0 then sd ((i - 1) / 5) else th ((i - 1) / 5) ((i - 1) % 5 - 1)) else T ((i - 1 - 5 * nc) / nc) ((i - 1 - 5 * nc) % nc)
def jd_im (nc nr : Nat) : Nat := 1 + 5 * nc + nc * nr
def jd_io (nc nr : Nat) (sd : Nat → Int) (th T : Nat → Nat → Int) (i : Nat) : Int :=
  if i < jd_im nc nr then jd_io0 nc nr sd th T i else jd_ck (jd_io0 nc nr sd th T) (jd_im nc nr)
def jc_img (n : Nat) (o : Nat → Int) (μ : qm_M) : Prop := μ 12 1 = (n : Int) ∧ ∀ i, i < n → μ 45 i = o i
def jm_img (n : Nat) (o : Nat → Int) (μ : qm_M) : Prop := μ 13 75 = (n : Int) ∧ ∀ i, i < n → μ 94 i = o i
theorem jl_imb {nc nr : Nat} (h1 : nc ≤ 8) (h2 : nr ≤ 60) : nc * nr ≤ 480 := Nat.mul_le_mul h1 h2
theorem jl_rc2 {nc nr r c : Nat} (hr : r < nr) (hc : c < nc) : nc * r + c < nc * nr := by
  have h2 : nc * (r + 1) ≤ nc * nr := Nat.mul_le_mul_left nc hr
  rw [Nat.mul_add, Nat.mul_one] at h2
  omega
section
variable {L d nc nr n : Nat} {lm nco : Int} {sd t o : Nat → Int} {th T : Nat → Nat → Int} {μ : qm_M} {Q : Int → qm_M → Prop} {V : qm_M → Prop}
theorem jl_ios {c : Nat} (hc : c < nc) : jd_io nc nr sd th T (1 + 5 * c) = sd c := by
  unfold jd_io jd_im jd_io0
  rw [if_pos (by omega), if_neg (by omega), if_pos (by omega), if_pos (by omega), show (1 + 5 * c - 1) / 5 = c by omega]
theorem jl_iot {c k : Nat} (hc : c < nc) (hk : k < 4) : jd_io nc nr sd th T (1 + 5 * c + 1 + k) = th c k := by
  unfold jd_io jd_im jd_io0
  rw [if_pos (by omega), if_neg (by omega), if_pos (by omega), if_neg (by omega), show (1 + 5 * c + 1 + k - 1) / 5 = c by omega, show (1 + 5 * c + 1 + k - 1) % 5 - 1 = k by omega]
theorem jl_ior {r c : Nat} (hr : r < nr) (hc : c < nc) : jd_io nc nr sd th T (1 + 5 * nc + nc * r + c) = T r c := by
  have h1 := jl_rc2 hr hc
  unfold jd_io jd_im jd_io0
  rw [if_pos (by omega), if_neg (by omega), if_neg (by omega), show 1 + 5 * nc + nc * r + c - 1 - 5 * nc = nc * r + c by omega, (jl_rc hc).1, (jl_rc hc).2]
theorem jl_io1 : jd_io nc nr sd th T 0 = nr := by
  unfold jd_io jd_im jd_io0
  rw [if_pos (by omega), if_pos rfl]
theorem jl_iock : jd_io nc nr sd th T (jd_im nc nr) = jd_ck (jd_io nc nr sd th T) (jd_im nc nr) := by
  have e : jd_ck (jd_io nc nr sd th T) (jd_im nc nr) = jd_ck (jd_io0 nc nr sd th T) (jd_im nc nr) := jl_cke _ fun i hi => by unfold jd_io; rw [if_pos hi]
  rw [e]
  unfold jd_io
  rw [if_neg (Nat.lt_irrefl _)]
theorem jl_iob (hO : jd_ok nc nr lm sd th T) (i : Nat) (hi : i ≤ jd_im nc nr) : 0 ≤ jd_io nc nr sd th T i ∧ jd_io nc nr sd th T i < 256 := by
  unfold jd_io
  split
  · rename_i h
    unfold jd_io0
    unfold jd_im at h
    have h2 := hO.2.1
    split
    · omega
    split
    · split
      · have := hO.2.2.2.1 ((i - 1) / 5) (by omega); omega
      · have := hO.2.2.2.2.1 ((i - 1) / 5) ((i - 1) % 5 - 1) (by omega) (by omega); omega
    · have hn : 0 < nc := by
        refine Nat.pos_of_ne_zero fun z => ?_
        rw [z, Nat.zero_mul] at h; omega
      have hlt : (i - 1 - 5 * nc) / nc < nr := Nat.div_lt_of_lt_mul (by omega)
      have := hO.2.2.2.2.2.1 _ _ hlt (Nat.mod_lt (i - 1 - 5 * nc) hn)
      omega
  · have := jl_ck (jd_io0 nc nr sd th T) (jd_im nc nr); omega
theorem js_602 {z : Int} (h : jc_img n o μ) (hn : n < 522) (hz : o n = z) (H : ∀ μ', jd_fr [12, 45] μ μ' → jc_img (n + 1) o μ' → V μ') : qm_CV (qb_T L) (d + 1) 602 [qm_P 12, qm_I z] μ V := by
  refine b602_0 μ _ _ ?_
  rw [h.1]
  refine js_402i n rfl (by decide) rfl hn ⟨rfl, H _ (jf_set (jf_set (jf_refl _ _) rfl) rfl) ⟨?_, fun i hi => ?_⟩⟩
  · rw [jl_ss, jl_sn _ _ _ (by decide), h.1]; rfl
  · rw [jl_sn _ _ _ (by decide)]
    by_cases q : i = n
    · rw [q, jl_ss, hz]
    · rw [jl_sk _ _ _ q]; exact h.2 i (by omega)
theorem jl_bfr {μ' : qm_M} (hB : jc_belt nc nr lm sd th T μ) (hf : jd_fr [12, 45] μ μ') : jc_belt nc nr lm sd th T μ' := by
  unfold jc_belt at *
  rw [hf 6 rfl, hf 31 rfl, hf 32 rfl, hf 33 rfl, hf 34 rfl]
  exact hB
theorem js_604 (hB : jc_belt nc nr lm sd th T μ) (hO : jd_ok nc nr lm sd th T) (H : ∀ μ', jd_fr [12, 45] μ μ' → jc_img (jd_im nc nr + 1) (jd_io nc nr sd th T) μ' → V μ') : qm_CV (qb_T L) (d + 3) 604 [qm_P 12, qm_P 6] μ V := by
  have h1 := hO.1
  have h2 := hO.2.1
  have hb := jl_imb h1 h2
  refine b604_0 μ _ ?_
  have hf0 : jd_fr [12, 45] μ (qm_set μ 12 1 0) := jf_set (jf_refl _ _) rfl
  rw [hB.2.1]
  refine js_602 (n := 0) (o := jd_io nc nr sd th T) ⟨jl_ss _ _ _ _, fun i hi => absurd hi (by omega)⟩ (by decide) jl_io1 fun μ1 f1 i1 => ?_
  refine jl_loop (S := fun c => ∀ μ' w, jd_fr [12, 45] μ μ' → jc_img (1 + 5 * c) (jd_io nc nr sd th T) μ' → qm_W (qb_T L) (d + 3) 604 15 [qm_P 12, qm_P 6, qm_I ((c : Nat) : Int), w] [] μ' (fun v μ' => v = none ∧ V μ')) nc (fun c hc ih μ' w hf hi => ?_) (fun μ' w hf hi => ?_) μ1 none (jf_trans hf0 f1) i1
  · have hB' := jl_bfr hB hf
    refine b604_15 μ' _ _ _ ?_
    rw [hB'.1]
    refine ⟨by omega, by omega, fun q => absurd q (by omega), fun _ => js_207 hB' hO hc (js_602 hi (by omega) (jl_ios hc) fun μ2 f2 i2 => ?_)⟩
    refine jl_loop (S := fun k => ∀ μ', jd_fr [12, 45] μ μ' → jc_img (1 + 5 * c + 1 + k) (jd_io nc nr sd th T) μ' → qm_W (qb_T L) (d + 3) 604 34 [qm_P 12, qm_P 6, qm_I ((c : Nat) : Int), qm_I ((k : Nat) : Int)] [] μ' (fun v μ' => v = none ∧ V μ')) 4 (fun k hk ih2 μ' hf hi => ?_) (fun μ' hf hi => ?_) μ2 (jf_trans hf f2) i2
    · have hB' := jl_bfr hB hf
      refine b604_34 μ' _ _ _ ⟨by omega, fun q => absurd q (by omega), fun _ => js_210 hB' hO hc ?_⟩
      rw [show jd_c4 (k : Int) = k by unfold jd_c4; omega]
      exact js_602 hi (by omega) (jl_iot hc hk) fun μ3 f3 i3 => ih2 μ3 (jf_trans hf f3) i3
    · refine b604_34 μ' _ _ _ ⟨by decide, fun _ => ih μ' _ hf ?_, fun q => absurd (by decide) q⟩
      rw [show 1 + 5 * (c + 1) = 1 + 5 * c + 1 + 4 by omega]; exact hi
  · have hB' := jl_bfr hB hf
    refine b604_15 μ' _ _ _ ?_
    rw [hB'.1]
    refine ⟨by omega, by omega, fun _ => ?_, fun q => absurd (Int.le_refl _) q⟩
    refine jl_loop (S := fun r => ∀ μ' w, jd_fr [12, 45] μ μ' → jc_img (1 + 5 * nc + nc * r) (jd_io nc nr sd th T) μ' → qm_W (qb_T L) (d + 3) 604 63 [qm_P 12, qm_P 6, qm_I ((r : Nat) : Int), w] [] μ' (fun v μ' => v = none ∧ V μ')) nr (fun r hr ih μ' w hf hi => ?_) (fun μ' w hf hi => ?_) μ' w hf (by rw [Nat.mul_zero]; exact hi)
    · have hB' := jl_bfr hB hf
      have hmr : nc * r ≤ 8 * 60 := Nat.mul_le_mul h1 (by omega)
      refine b604_63 μ' _ _ _ ?_
      rw [hB'.2.1]
      refine ⟨by omega, by omega, fun q => absurd q (by omega), fun _ => ?_⟩
      refine jl_loop (S := fun c => ∀ μ', jd_fr [12, 45] μ μ' → jc_img (1 + 5 * nc + nc * r + c) (jd_io nc nr sd th T) μ' → qm_W (qb_T L) (d + 3) 604 73 [qm_P 12, qm_P 6, qm_I ((r : Nat) : Int), qm_I ((c : Nat) : Int)] [] μ' (fun v μ' => v = none ∧ V μ')) nc (fun c hc ih2 μ' hf hi => ?_) (fun μ' hf hi => ?_) μ' hf hi
      · have hB' := jl_bfr hB hf
        have hlt := jl_rc2 hr hc
        refine b604_73 μ' _ _ _ ?_
        rw [hB'.1]
        exact ⟨by omega, by omega, fun q => absurd q (by omega), fun _ => js_214 hB' hO hr hc (js_602 hi (by omega) (jl_ior hr hc) fun μ3 f3 i3 => ih2 μ3 (jf_trans hf f3) i3)⟩
      · have hB' := jl_bfr hB hf
        refine b604_73 μ' _ _ _ ?_
        rw [hB'.1]
        refine ⟨by omega, by omega, fun _ => ih μ' _ hf ?_, fun q => absurd (Int.le_refl _) q⟩
        rw [Nat.mul_add, Nat.mul_one, ← Nat.add_assoc]; exact hi
    · have hB' := jl_bfr hB hf
      refine b604_63 μ' _ _ _ ?_
      rw [hB'.2.1]
      refine ⟨by omega, by omega, fun _ => ?_, fun q => absurd (Int.le_refl _) q⟩
      have hm : 1 + 5 * nc + nc * nr = jd_im nc nr := rfl
      rw [hm] at hi
      have hmb : jd_im nc nr ≤ 521 := by unfold jd_im; omega
      refine jl_loop (S := fun i => qm_W (qb_T L) (d + 3) 604 108 [qm_P 12, qm_P 6, qm_I (jd_ck (jd_io nc nr sd th T) i), qm_I ((i : Nat) : Int)] [] μ' (fun v μ' => v = none ∧ V μ')) (jd_im nc nr) (fun i hi2 ih => ?_) ?_
      · have hck := jl_ck (jd_io nc nr sd th T) i
        have hob := jl_iob hO i (by omega)
        refine b604_108 μ' _ _ _ ?_
        rw [hi.1]
        refine ⟨by omega, by omega, fun q => absurd q (by omega), fun _ => b601_0 μ' _ _ (js_401i i rfl (by decide) rfl (by omega) ⟨_, rfl, b603_0 μ' _ _ _ ⟨_, rfl, ?_⟩⟩)⟩
        rw [hi.2 i hi2, qa_rem (by omega) (by omega) (by decide) (by decide)]
        exact ih
      · refine b604_108 μ' _ _ _ ?_
        rw [hi.1]
        exact ⟨by omega, by omega, fun _ => js_602 hi (by omega) jl_iock fun μ3 f3 i3 => ⟨rfl, H μ3 (jf_trans hf f3) i3⟩, fun q => absurd (Int.le_refl _) q⟩
theorem js_2226 (hB : jc_belt nc nr lm sd th T μ) (hO : jd_ok nc nr lm sd th T) (H : ∀ μ', jd_fr [12, 45] μ μ' → jc_img (jd_im nc nr + 1) (jd_io nc nr sd th T) μ' → Q ((jd_im nc nr + 1 : Nat) : Int) μ') : qm_CI (qb_T L) (d + 4) 2226 [qm_P 0] μ Q := by
  refine b2226_0 μ _ (js_604 hB hO fun μ' hf hi => ⟨_, rfl, ?_⟩)
  rw [hi.1]; exact H μ' hf hi
/-! the reference's -/
theorem js_2521 {a m : Nat} {x : Int} (h0 : qm_sh (qb_T L) a = some (.inr (0, m))) (hm : m ≤ 20000) (hx : x = (n : Int)) (hn : n ≤ m) (ho : ∀ i, i < n → μ a i = o i ∧ 0 ≤ o i ∧ o i < 256) (H : Q (jd_ck o n) μ) : qm_CI (qb_T L) d 2521 [qm_P a, qm_I x] μ Q := by
  subst hx
  refine b2521_0 h0 μ _ _ ?_
  refine jl_loop (S := fun i => qm_W (qb_T L) d 2521 5 [qm_P a, qm_I (n : Int), qm_I (jd_ck o i), qm_I ((i : Nat) : Int)] [] μ (fun v μ' => ∃ r, v = some (.inl r) ∧ Q r μ')) n (fun i hi ih => ?_) ?_
  · have hck := jl_ck o i
    have hob := ho i hi
    refine b2521_5 h0 μ _ _ _ _ ⟨by omega, by omega, fun q => absurd q (by omega), fun _ => ⟨by omega, ?_⟩⟩
    rw [Int.toNat_natCast, hob.1, qa_rem (by omega) (by omega) (by decide) (by decide)]
    exact ih
  · exact b2521_5 h0 μ _ _ _ _ ⟨by omega, by omega, fun _ => ⟨_, rfl, H⟩, fun q => absurd (Int.le_refl _) q⟩
theorem jl_mbfr {fs l : List Nat} {μ' : qm_M} (hM : jm_belt nc nr lm sd th T μ) (hf : jd_fm fs l μ μ') (hfs : fs.contains 37 = false) (hl : l.contains 59 = false ∧ l.contains 63 = false ∧ l.contains 61 = false ∧ l.contains 67 = false) : jm_belt nc nr lm sd th T μ' := by
  unfold jm_belt at *
  rw [hf.1 59 rfl hl.1, hf.1 63 rfl hl.2.1, hf.1 61 rfl hl.2.2.1, hf.1 67 rfl hl.2.2.2, hf.2 37 hfs]
  exact hM
theorem jl_mpush {z : Int} {k : Nat} {a : Int} {μ0 : qm_M} (h : jm_img n o μ) (hf : jd_fm [75] [94] μ0 μ) (hz : o n = z) (hk : k = n) (ha : a = (n : Int) + 1) : jd_fm [75] [94] μ0 (qm_set (qm_set μ 94 k z) 13 75 a) ∧ jm_img (n + 1) o (qm_set (qm_set μ 94 k z) 13 75 a) := by
  subst hk ha
  refine ⟨jg_f (jg_c hf rfl rfl) rfl, jl_ss _ _ _ _, fun i hi => ?_⟩
  rw [jl_sn _ _ _ (by decide)]
  by_cases q : i = k
  · rw [q, jl_ss, hz]
  · rw [jl_sk _ _ _ q]; exact h.2 i (by omega)
theorem js_2522 (hM : jm_belt nc nr lm sd th T μ) (hO : jd_ok nc nr lm sd th T) (H : ∀ μ', jd_fm [75] [94] μ μ' → jm_img (jd_im nc nr + 1) (jd_io nc nr sd th T) μ' → Q ((jd_im nc nr + 1 : Nat) : Int) μ') : qm_CI (qb_T L) (d + 1) 2522 [qm_P 13] μ Q := by
  have h1 := hO.1
  have h2 := hO.2.1
  have hb := jl_imb h1 h2
  refine b2522_0 μ _ ?_
  rw [hM.2.1]
  have i0 : jd_fm [75] [94] μ (qm_set (qm_set μ 94 0 (nr : Int)) 13 75 1) ∧ jm_img 1 (jd_io nc nr sd th T) (qm_set (qm_set μ 94 0 (nr : Int)) 13 75 1) := by
    refine ⟨jg_f (jg_c (jg_refl _ _ _) rfl rfl) rfl, jl_ss _ _ _ _, fun i hi => ?_⟩
    obtain rfl : i = 0 := by omega
    rw [jl_sn _ _ _ (by decide), jl_ss, jl_io1]
  refine jl_loop (S := fun k => ∀ μ', jd_fm [75] [94] μ μ' → jm_img (1 + k) (jd_io nc nr sd th T) μ' → qm_W (qb_T L) (d + 1) 2522 17 [qm_P 13, qm_I ((k : Nat) : Int), none] [] μ' (fun v μ' => ∃ r, v = some (.inl r) ∧ Q r μ')) (5 * nc) (fun k hk ih μ' hf hi => ?_) (fun μ' hf hi => ?_) _ i0.1 i0.2
  · have hM' := jl_mbfr hM hf rfl ⟨rfl, rfl, rfl, rfl⟩
    refine b2522_17 μ' _ _ (js_2436 hM' ⟨by omega, by omega, fun q => absurd q (by omega), fun _ => ⟨by omega, ?_⟩⟩)
    rw [hi.1, show (40 + (k : Int)).toNat = 40 + k by omega]
    have hz : jd_io nc nr sd th T (1 + k) = μ' 61 (40 + k) := by
      by_cases q : k % 5 = 0
      · rw [show 1 + k = 1 + 5 * (k / 5) by omega, jl_ios (by omega), show 40 + k = 40 + 5 * (k / 5) by omega]
        exact (hM'.2.2.2.1 (k / 5) (by omega)).symm
      · rw [show 1 + k = 1 + 5 * (k / 5) + 1 + (k % 5 - 1) by omega, jl_iot (by omega) (by omega), show 40 + k = 41 + 5 * (k / 5) + (k % 5 - 1) by omega]
        exact (hM'.2.2.2.2.1 (k / 5) (k % 5 - 1) (by omega) (by omega)).symm
    have hp := jl_mpush (k := (((1 + k : Nat)) : Int).toNat) (a := ((1 + k : Nat) : Int) + 1) hi hf hz (by omega) rfl
    exact ⟨by omega, ih _ hp.1 (by rw [show 1 + (k + 1) = 1 + k + 1 by omega]; exact hp.2)⟩
  · have hM' := jl_mbfr hM hf rfl ⟨rfl, rfl, rfl, rfl⟩
    refine b2522_17 μ' _ _ (js_2436 hM' ⟨by omega, by omega, fun _ => ?_, fun q => absurd (show 5 * (nc : Int) ≤ ((5 * nc : Nat) : Int) by omega) q⟩)
    refine jl_loop (S := fun r => ∀ μ' w, jd_fm [75] [94] μ μ' → jm_img (1 + 5 * nc + nc * r) (jd_io nc nr sd th T) μ' → qm_W (qb_T L) (d + 1) 2522 63 [qm_P 13, qm_I ((r : Nat) : Int), w] [] μ' (fun v μ' => ∃ r, v = some (.inl r) ∧ Q r μ')) nr (fun r hr ih μ' w hf hi => ?_) (fun μ' w hf hi => ?_) μ' none hf (by rw [Nat.mul_zero]; exact hi)
    · have hM' := jl_mbfr hM hf rfl ⟨rfl, rfl, rfl, rfl⟩
      refine b2522_63 μ' _ _ _ ?_
      rw [hM'.2.1]
      refine ⟨by omega, by omega, fun q => absurd q (by omega), fun _ => ?_⟩
      refine jl_loop (S := fun c => ∀ μ', jd_fm [75] [94] μ μ' → jm_img (1 + 5 * nc + nc * r + c) (jd_io nc nr sd th T) μ' → qm_W (qb_T L) (d + 1) 2522 73 [qm_P 13, qm_I ((r : Nat) : Int), qm_I ((c : Nat) : Int)] [] μ' (fun v μ' => ∃ r, v = some (.inl r) ∧ Q r μ')) nc (fun c hc ih2 μ' hf hi => ?_) (fun μ' hf hi => ?_) μ' hf hi
      · have hM' := jl_mbfr hM hf rfl ⟨rfl, rfl, rfl, rfl⟩
        have hlt := jl_rc2 hr hc
        refine b2522_73 μ' _ _ _ (js_2436 hM' ⟨by omega, by omega, fun q => absurd q (by omega), fun _ => ⟨by omega, ?_⟩⟩)
        rw [hi.1, show ((8 * (r : Int)) + (c : Int)).toNat = 8 * r + c by omega, hM'.2.2.2.2.2 r c hr hc]
        have hp := jl_mpush (k := (((1 + 5 * nc + nc * r + c : Nat)) : Int).toNat) (a := ((1 + 5 * nc + nc * r + c : Nat) : Int) + 1) hi hf (jl_ior hr hc) (by omega) rfl
        exact ⟨by omega, ih2 _ hp.1 hp.2⟩
      · have hM' := jl_mbfr hM hf rfl ⟨rfl, rfl, rfl, rfl⟩
        refine b2522_73 μ' _ _ _ (js_2436 hM' ⟨by omega, by omega, fun _ => ih μ' _ hf ?_, fun q => absurd (Int.le_refl _) q⟩)
        rw [Nat.mul_add, Nat.mul_one, ← Nat.add_assoc]; exact hi
    · have hM' := jl_mbfr hM hf rfl ⟨rfl, rfl, rfl, rfl⟩
      have hm : 1 + 5 * nc + nc * nr = jd_im nc nr := rfl
      rw [hm] at hi
      have hmb : jd_im nc nr ≤ 521 := by unfold jd_im; omega
      refine b2522_63 μ' _ _ _ ?_
      rw [hM'.2.1, hi.1]
      refine ⟨by omega, by omega, fun _ => js_2521 (n := jd_im nc nr) (o := jd_io nc nr sd th T) rfl (by decide) rfl (by omega) (fun i hi2 => ⟨hi.2 i hi2, jl_iob hO i (by omega)⟩) ?_, fun q => absurd (Int.le_refl _) q⟩
      rw [hi.1]
      have hp := jl_mpush (k := ((jd_im nc nr : Nat) : Int).toNat) (a := ((jd_im nc nr : Nat) : Int) + 1) hi hf jl_iock (by omega) rfl
      exact ⟨by omega, _, rfl, H _ hp.1 hp.2⟩
/-! a tape that is an image -/
def jd_Tt (nc : Nat) (t : Nat → Int) (r c : Nat) : Int := t (1 + 5 * nc + nc * r + c)
def jd_ison (nc n : Nat) (nco lm : Int) (t : Nat → Int) : Prop := 0 < n ∧ t 0 ≤ 60 ∧ (n : Int) = 2 + 5 * nc + t 0 * nc ∧ jd_ck t (n - 1) = t (n - 1) ∧ (∀ c, c < nc → t (1 + 5 * c) ≤ 1 ∧ ∀ k, k < 4 → t (2 + 5 * c + k) < nco) ∧ ∀ c, c < nc → ∀ r, r < (t 0).toNat → jd_Tt nc t r c ≤ 2 ∧ -lm ≤ jd_tw (fun i => jd_Tt nc t i c) (r + 1) ∧ jd_tw (fun i => jd_Tt nc t i c) (r + 1) ≤ lm
theorem jl_isn (hk : jd_tok n t) (h0 : 0 < n) (h60 : t 0 ≤ 60) (hn : (n : Int) = 2 + 5 * nc + t 0 * nc) : n = 2 + 5 * nc + nc * (t 0).toNat ∧ (t 0).toNat ≤ 60 ∧ (((t 0).toNat : Nat) : Int) = t 0 := by
  have h1 := hk.2 0 h0
  obtain ⟨R, hR⟩ := Int.eq_ofNat_of_zero_le h1.1
  rw [hR] at hn h60 ⊢
  refine ⟨?_, by omega, by omega⟩
  have : ((R : Int) * (nc : Int)) = ((nc * R : Nat) : Int) := by rw [Int.natCast_mul, Int.mul_comm]
  rw [this] at hn
  rw [Int.toNat_natCast]; omega
theorem jl_onok (hO : jd_ok nc nr lm sd th T) (hco : nco ≤ 6) (hk : jd_tok n t) (h : jd_ison nc n nco lm t) : ∀ m, m ≤ (t 0).toNat → jd_ok nc m lm (fun c => t (1 + 5 * c)) (fun c k => t (2 + 5 * c + k)) (jd_Tt nc t) := by
  intro m hm
  obtain ⟨h0, h1, h2, h3, h4, h5⟩ := h
  obtain ⟨e1, e2, e3⟩ := jl_isn hk h0 h1 h2
  refine ⟨hO.1, by omega, hO.2.2.1, fun c hc => ?_, fun c k hc hk2 => ?_, fun r c hr hc => ?_, fun r c hr hc => ?_⟩
  · have := hk.2 (1 + 5 * c) (by omega)
    have := (h4 c hc).1
    show t (1 + 5 * c) = 0 ∨ t (1 + 5 * c) = 1
    omega
  · have := hk.2 (2 + 5 * c + k) (by omega)
    have := (h4 c hc).2 k hk2
    show 0 ≤ t (2 + 5 * c + k) ∧ t (2 + 5 * c + k) < 6
    omega
  · have hlt := jl_rc2 (nr := (t 0).toNat) (show r < _ by omega) hc
    have := hk.2 (1 + 5 * nc + nc * r + c) (by omega)
    have := (h5 c hc r (by omega)).1
    exact ⟨by unfold jd_Tt; omega, this⟩
  · cases r with
    | zero =>
      have := hO.2.2.1
      show -lm ≤ 0 ∧ 0 ≤ lm
      omega
    | succ r => exact (h5 c hc r (by omega)).2
theorem js_606 {c : Nat} (hT : jc_tape n t μ) (hk : jd_tok n t) (hn : 5 * c + 6 ≤ n) (hc : c < 8) (hco : 0 ≤ nco ∧ nco ≤ 6) (H1 : (t (1 + 5 * c) ≤ 1 ∧ ∀ k, k < 4 → t (2 + 5 * c + k) < nco) → Q 1 μ) (H0 : ¬ (t (1 + 5 * c) ≤ 1 ∧ ∀ k, k < 4 → t (2 + 5 * c + k) < nco) → Q 0 μ) : qm_CI (qb_T L) (d + 1) 606 [qm_P 1, qm_I (c : Int), qm_I nco] μ Q := by
  have hb := hk.2 (1 + 5 * c) (by omega)
  refine b606_0 μ _ _ _ (js_1602 (1 + 5 * c) hT hk (by omega) (by omega) ⟨by omega, fun y => ?_, fun y => ⟨_, rfl, H0 fun z => y z.1⟩⟩)
  refine jl_loop (S := fun k => (∀ k', k' < k → t (2 + 5 * c + k') < nco) → qm_W (qb_T L) (d + 1) 606 17 [qm_P 1, qm_I (c : Int), qm_I nco, qm_I ((k : Nat) : Int)] [] μ (fun v μ' => ∃ r, v = some (.inl r) ∧ Q r μ')) 4 (fun k hk4 ih hp => ?_) (fun hp => ?_) (fun k' hk' => absurd hk' (by omega))
  · have hb2 := hk.2 (2 + 5 * c + k) (by omega)
    refine b606_17 μ _ _ _ _ ⟨by omega, fun q => absurd q (by omega), fun _ => js_1602 (2 + 5 * c + k) hT hk (by omega) (by omega) ⟨by omega, by omega, fun z => ih fun k' hk' => ?_, fun z => ⟨_, rfl, H0 fun x => z (x.2 k hk4)⟩⟩⟩
    by_cases q : k' = k
    · rw [q]; exact z
    · exact hp k' (by omega)
  · exact b606_17 μ _ _ _ _ ⟨by decide, fun _ => ⟨_, rfl, H1 ⟨y, hp⟩⟩, fun q => absurd (by decide) q⟩
theorem js_607 {r c : Nat} (hT : jc_tape n t μ) (hk : jd_tok n t) (hn : 1 + 5 * nc + nc * r + c < n) (H : Q (jd_Tt nc t r c) μ) : qm_CI (qb_T L) (d + 1) 607 [qm_P 1, qm_I (nc : Int), qm_I (r : Int), qm_I (c : Int)] μ Q := by
  have e : (r : Int) * (nc : Int) = ((nc * r : Nat) : Int) := by rw [Int.natCast_mul, Int.mul_comm]
  refine b607_0 μ _ _ _ _ ?_
  rw [e]
  exact js_1602 (1 + 5 * nc + nc * r + c) hT hk (by omega) hn ⟨_, rfl, H⟩
theorem js_608 {c : Nat} (hB : jc_belt nc nr lm sd th T μ) (hO : jd_ok nc nr lm sd th T) (hT : jc_tape n t μ) (hk : jd_tok n t) (hc : c < nc) (h0 : 0 < n) (h60 : t 0 ≤ 60) (hn : (n : Int) = 2 + 5 * nc + t 0 * nc) (H1 : (∀ r, r < (t 0).toNat → jd_Tt nc t r c ≤ 2 ∧ -lm ≤ jd_tw (fun i => jd_Tt nc t i c) (r + 1) ∧ jd_tw (fun i => jd_Tt nc t i c) (r + 1) ≤ lm) → Q 1 μ) (H0 : ¬ (∀ r, r < (t 0).toNat → jd_Tt nc t r c ≤ 2 ∧ -lm ≤ jd_tw (fun i => jd_Tt nc t i c) (r + 1) ∧ jd_tw (fun i => jd_Tt nc t i c) (r + 1) ≤ lm) → Q 0 μ) : qm_CI (qb_T L) (d + 2) 608 [qm_P 1, qm_P 6, qm_I (c : Int)] μ Q := by
  obtain ⟨e1, e2, e3⟩ := jl_isn hk h0 h60 hn
  have hlm := hO.2.2.1
  refine b608_0 μ _ _ ?_
  refine jl_loop (S := fun r => ∀ w, (∀ r', r' < r → jd_Tt nc t r' c ≤ 2 ∧ -lm ≤ jd_tw (fun i => jd_Tt nc t i c) (r' + 1) ∧ jd_tw (fun i => jd_Tt nc t i c) (r' + 1) ≤ lm) → qm_W (qb_T L) (d + 2) 608 5 [qm_P 1, qm_P 6, qm_I (c : Int), qm_I (jd_tw (fun i => jd_Tt nc t i c) r), qm_I ((r : Nat) : Int), w] [] μ (fun v μ' => ∃ r, v = some (.inl r) ∧ Q r μ')) (t 0).toNat (fun r hr ih w hp => ?_) (fun w hp => ?_) none (fun r' hr' => absurd hr' (by omega))
  · have hlt := jl_rc2 hr hc
    have hb := hk.2 (1 + 5 * nc + nc * r + c) (by omega)
    have htb := jl_twb (fun i => jd_Tt nc t i c) (r + 1)
    refine b608_5 μ _ _ _ _ _ (js_1602 0 hT hk rfl h0 ⟨by omega, by omega, fun q => absurd q (by omega), fun _ => ?_⟩)
    rw [hB.1]
    refine js_607 hT hk (by omega) ⟨by unfold jd_Tt; omega, fun y => ?_, fun y => ⟨_, rfl, H0 fun z => y (z r hr).1⟩⟩
    refine js_204 (c := 0) (by decide) (by unfold jd_Tt; omega) ?_
    have e : jd_mv (jd_Tt nc t r c / ((2 ^ (2 * 0) : Nat) : Int) % 4) = jd_mv (jd_Tt nc t r c) := by
      have : jd_Tt nc t r c / ((2 ^ (2 * 0) : Nat) : Int) % 4 = jd_Tt nc t r c := by
        rw [show ((2 ^ (2 * 0) : Nat) : Int) = 1 from rfl, Int.ediv_one]; unfold jd_Tt at y ⊢; omega
      rw [this]
    have e4 : jd_tw (fun i => jd_Tt nc t i c) r + jd_mv (jd_Tt nc t r c) = jd_tw (fun i => jd_Tt nc t i c) (r + 1) := rfl
    rw [e, e4, hB.2.2.1]
    refine ⟨by omega, by omega, fun z => ⟨_, rfl, H0 fun x => by have := (x r hr).2.2; omega⟩, fun z => ⟨by omega, by omega, fun z2 => ih _ fun r' hr' => ?_, fun z2 => ⟨_, rfl, H0 fun x => by have := (x r hr).2.1; omega⟩⟩⟩
    by_cases q : r' = r
    · rw [q]; exact ⟨y, by omega, by omega⟩
    · exact hp r' (by omega)
  · exact b608_5 μ _ _ _ _ _ (js_1602 0 hT hk rfl h0 ⟨by omega, by omega, fun _ => ⟨_, rfl, H1 hp⟩, fun q => absurd (by omega) q⟩)
theorem js_605 (hB : jc_belt nc nr lm sd th T μ) (hO : jd_ok nc nr lm sd th T) (hT : jc_tape n t μ) (hk : jd_tok n t) (hco : 0 ≤ nco ∧ nco ≤ 6) (H1 : jd_ison nc n nco lm t → Q 1 μ) (H0 : ¬ jd_ison nc n nco lm t → Q 0 μ) : qm_CI (qb_T L) (d + 3) 605 [qm_P 1, qm_P 6, qm_I nco] μ Q := by
  have h1 := hO.1
  have hn := hk.1
  by_cases h0 : 0 < n
  · have hb0 := hk.2 0 h0
    refine b605_0 μ _ _ (js_1602 0 hT hk rfl h0 ⟨by omega, fun q => absurd q (by omega), fun _ => ⟨by omega, fun y => ⟨_, rfl, H0 fun z => by have := z.2.1; omega⟩, fun y => ?_⟩⟩)
    have hmul : 0 ≤ t 0 * (nc : Int) ∧ t 0 * (nc : Int) ≤ 60 * 8 := ⟨Int.mul_nonneg hb0.1 (by omega), Int.mul_le_mul (by omega) (by omega) (by omega) (by omega)⟩
    rw [hT.1, hB.1]
    refine ⟨by omega, by omega, fun y2 => ?_, fun y2 => ⟨_, rfl, H0 fun z => y2 z.2.2.1⟩⟩
    refine jl_loop (S := fun i => qm_W (qb_T L) (d + 3) 605 47 [qm_P 1, qm_P 6, qm_I nco, qm_I (t 0), qm_I (jd_ck t i), qm_I ((i : Nat) : Int)] [] μ (fun v μ' => ∃ r, v = some (.inl r) ∧ Q r μ')) (n - 1) (fun i hi ih => ?_) ?_
    · have hck := jl_ck t i
      have hb := hk.2 i (by omega)
      refine b605_47 μ _ _ _ _ _ ?_
      rw [hT.1]
      refine ⟨by omega, by omega, fun q => absurd q (by omega), fun _ => js_1602 i hT hk rfl (by omega) (b603_0 μ _ _ _ ⟨_, rfl, ?_⟩)⟩
      rw [qa_rem (by omega) (by omega) (by decide) (by decide)]
      exact ih
    · have hck := jl_ck t (n - 1)
      have hb := hk.2 (n - 1) (by omega)
      refine b605_47 μ _ _ _ _ _ ?_
      rw [hT.1]
      refine ⟨by omega, by omega, fun _ => js_1602 (n - 1) hT hk (by omega) (by omega) ⟨by omega, by omega, fun y3 => ?_, fun y3 => ⟨_, rfl, H0 fun z => y3 z.2.2.2.1⟩⟩, fun q => absurd (by omega) q⟩
      obtain ⟨e1, e2, e3⟩ := jl_isn hk h0 (by omega) y2
      refine jl_loop (S := fun c => (∀ c', c' < c → (t (1 + 5 * c') ≤ 1 ∧ ∀ k, k < 4 → t (2 + 5 * c' + k) < nco) ∧ ∀ r, r < (t 0).toNat → jd_Tt nc t r c' ≤ 2 ∧ -lm ≤ jd_tw (fun i => jd_Tt nc t i c') (r + 1) ∧ jd_tw (fun i => jd_Tt nc t i c') (r + 1) ≤ lm) → qm_W (qb_T L) (d + 3) 605 97 [qm_P 1, qm_P 6, qm_I nco, qm_I (t 0), qm_I (jd_ck t (n - 1)), qm_I ((c : Nat) : Int)] [] μ (fun v μ' => ∃ r, v = some (.inl r) ∧ Q r μ')) nc (fun c hc ih hp => ?_) (fun hp => ?_) (fun c' hc' => absurd hc' (by omega))
      · refine b605_97 μ _ _ _ _ _ ?_
        rw [hB.1]
        refine ⟨by omega, by omega, fun q => absurd q (by omega), fun _ => js_606 hT hk (by omega) (by omega) hco (fun y4 => ⟨by decide, fun q => absurd q (by decide), fun _ => js_608 hB hO hT hk hc h0 (by omega) y2 (fun y5 => ⟨by decide, fun q => absurd q (by decide), fun _ => ih fun c' hc' => ?_⟩) (fun y5 => ⟨by decide, fun _ => ⟨_, rfl, H0 fun z => y5 (z.2.2.2.2.2 c hc)⟩, fun q => absurd rfl q⟩)⟩) (fun y4 => ⟨by decide, fun _ => ⟨_, rfl, H0 fun z => y4 (z.2.2.2.2.1 c hc)⟩, fun q => absurd rfl q⟩)⟩
        by_cases q : c' = c
        · rw [q]; exact ⟨y4, y5⟩
        · exact hp c' (by omega)
      · refine b605_97 μ _ _ _ _ _ ?_
        rw [hB.1]
        exact ⟨by omega, by omega, fun _ => ⟨_, rfl, H1 ⟨h0, by omega, y2, y3, fun c hc => (hp c hc).1, fun c hc => (hp c hc).2⟩⟩, fun q => absurd (Int.le_refl _) q⟩
  · exact b605_0 μ _ _ (js_1602e hT hk (by decide) (by omega) ⟨by decide, fun _ => ⟨_, rfl, H0 fun z => h0 z.1⟩, fun q => absurd (by decide) q⟩)
end
