/-! ===== one step of the making machine ===== -/
def qk_Fr (T : qk_T) (bs : Nat → ByteArray) (ow : Nat → String) (cl : List vw_C) (TB : List Jvm.Cond) (NS : qk_NS) (ac : Nat → ClassId) (D : va_G) (p : Program) (s : State) (m : MethodId) (args : Array Value) (meth : Method) (c : Code) (k : Nat) : Prop :=
  p.tables.exec = Jvm.exec ∧ c.code = bs k ∧ c.maxLocals = qk_mxl T k ∧ s.vm.findClass (ow k) = some m.cls ∧ (∀ w ∈ TB, w.before args s = true) ∧ va_K D cl (qm_tys ac) s ∧ qk_Nw NS s ∧ (k ≠ 3001 → meth.name = "<init>")
theorem qk_V {fs : List Value} {j : Nat} {v : Value} (h : fs[j]? = some v) : vp_V fs j = v := by simp [vp_V, h]
theorem qk_dfl_at {ty : Nat → FieldType} {n j : Nat} (h : j < n) : (qk_dfl ty n)[j]? = some ((qk_def (ty j)).getD none) := by simp [qk_dfl, h]
theorem qk_cl_eq {cl : List vw_C} {ci n n' : Nat} {C C' : String} {F F' : u_T} (h : cl[ci]? = some (C, F, n)) (h' : cl[ci]? = some (C', F', n')) : C = C' ∧ F = F' ∧ n = n' := by
  rw [h] at h'
  cases h'
  exact ⟨rfl, rfl, rfl⟩
theorem qk_fs_set {ad : Nat → Nat} {fs : List qm_V} {j : Nat} {v : qm_V} : (fs.map (qm_cv ad)).set j (qm_cv ad v) = (fs.set j v).map (qm_cv ad) := by
  rw [List.map_set]
theorem qk_narC {z : Int} (h0 : 0 ≤ z) (h1 : z < 128) : vp_nar .char (Int32.ofInt z) = Int32.ofInt z := by
  obtain ⟨k, rfl⟩ := Int.eq_ofNat_of_zero_le h0
  have key : ∀ k : Nat, k < 128 → vp_nar .char (Int32.ofInt (k : Int)) = Int32.ofInt (k : Int) := by decide
  exact key k (by omega)
section QKP
variable {p : Program} {l : Launch} {e : Env} {R : Room} {s : State} {m : MethodId} {args : Array Value} {below : List Frame} {meth : Method} {c : Code} {H : Heap} {locs : List Loc} {cells slots : Nat} {Q : State → Prop}
variable {T : qk_T} {bs : Nat → ByteArray} {ow : Nat → String} {nm : Nat → MethodName} {cl : List vw_C} {TB : List Jvm.Cond} {NS : qk_NS} {ad : Nat → Nat} {ac : Nat → ClassId} {D : va_G} {A : Nat → Prop} {H0 : Heap}
set_option maxHeartbeats 2000000 in
theorem qk_plain (vNcl : qk_vNcl T ow cl TB) (vFld : qk_vFld T ow cl TB) (vArr : qk_vArr TB) (vLaw : ∀ k i ci j, qk_fld T k i = some (ci, j) → k ≠ 3001)
    {k pc : Nat} {ls st : List qm_V} {G : List qk_E} {i : Instr} {len : Nat} {pc' : Nat} {ls' st' : List qm_V} {G' : List qk_E} {lsA : Array Slot}
    (hF : qk_Fr T bs ow cl TB NS ac D p s m args meth c k) (hd : decode (bs k) pc = .ok (i, len)) (hlen : len = qk_len i) (hs : qk_step T k pc ls st G i = some (.inl (pc', ls', st', G')))
    (hP : va_P D cl (qk_ws ad ac G) H) (hD : va_D A (qk_ws ad ac G)) (hS : va_S A H0 H locs) (hA : ∀ q, H0.size ≤ q → A q) (hL : qm_LH ad lsA (qk_mxl T k) ls) (hce : cells + G'.length ≤ R.cells + G.length) (hsl : slots + qk_sz G' ≤ R.slots + qk_sz G)
    (kk : ∀ (ad' : Nat → Nat) (H1 : Heap) (locs1 : List Loc) (lsB : Array Slot), (∀ i, i < G.length ∨ i = 999 → ad' i = ad i) → va_P D cl (qk_ws ad' ac G') H1 → va_D A (qk_ws ad' ac G') → va_S A H0 H1 locs1 → qm_LH ad' lsB (qk_mxl T k) ls' → W p l e R s m args below meth c H1 locs1 (cells + (G'.length - G.length)) (slots + (qk_sz G' - qk_sz G)) Q (F0 m pc' lsB (st'.map (qm_cv ad')))) :
    W p l e R s m args below meth c H locs cells slots Q (F0 m pc lsA (st.map (qm_cv ad))) := by
  have hle := qk_step_le hs
  obtain ⟨hx, hb, hml, hown, hts, hK, hNw, hini⟩ := hF
  have kk0 : ∀ (H1 : Heap) (locs1 : List Loc) (lsB : Array Slot), G'.length = G.length → qk_sz G' = qk_sz G → va_P D cl (qk_ws ad ac G') H1 → va_D A (qk_ws ad ac G') → va_S A H0 H1 locs1 → qm_LH ad lsB (qk_mxl T k) ls' → W p l e R s m args below meth c H1 locs1 cells slots Q (F0 m pc' lsB (st'.map (qm_cv ad))) := by
    intro H1 locs1 lsB e1 e2 a1 a2 a3 a4
    have := kk ad H1 locs1 lsB (fun _ _ => rfl) a1 a2 a3 a4
    rwa [e1, e2, Nat.sub_self, Nat.sub_self, Nat.add_zero, Nat.add_zero] at this
  have szset : ∀ (c : Nat) (e e' : qk_E), G[c]? = some e → (match e with | .inl (_, fs) => fs.length | .inr (_, n, _) => n) = (match e' with | .inl (_, fs) => fs.length | .inr (_, n, _) => n) → qk_sz (G.set c e') = qk_sz G := by
    intro c e e' h1 h2
    have key : (G.set c e').map (fun e => match e with | .inl (_, fs) => fs.length | .inr (_, n, _) => n) = G.map (fun e => match e with | .inl (_, fs) => fs.length | .inr (_, n, _) => n) := by
      apply List.ext_getElem?
      intro i
      rw [List.getElem?_map, List.getElem?_map, List.getElem?_set]
      by_cases hi : c = i
      · subst hi
        have hl := (List.getElem?_eq_some_iff.mp h1).1
        rw [if_pos rfl, if_pos hl, h1]
        simp only [Option.map_some]
        exact congrArg some h2.symm
      · rw [if_neg hi]
    exact congrArg List.sum key
  subst hlen
  cases i with
  | iconst n =>
    cases hs
    exact lv_iconst hx hb hd rfl (kk0 _ _ _ rfl rfl hP hD hS hL)
  | bipush n =>
    obtain ⟨hr, hs⟩ := qk_if hs
    cases hs
    exact lv_bipush hx hb hd (qm_b8 hr) (kk0 _ _ _ rfl rfl hP hD hS hL)
  | sipush n =>
    obtain ⟨hr, hs⟩ := qk_if hs
    cases hs
    exact lv_sipush hx hb hd (qm_b16 hr) (kk0 _ _ _ rfl rfl hP hD hS hL)
  | aload_n n =>
    simp only [qk_step] at hs
    split at hs
    · next cc hz =>
      cases hs
      exact lv_aload_n hx hb hd rfl (hL.2.2.2 _ _ hz) (kk0 _ _ _ rfl rfl hP hD hS hL)
    · cases hs
  | astore_n n =>
    simp only [qk_step] at hs
    split at hs
    · obtain ⟨hl, hs⟩ := qk_if hs
      cases hs
      have hln := hL.1
      exact lv_astore_n hx hb hd rfl hL.has (by omega) rfl (fun lsB h => kk0 _ _ _ rfl rfl hP hD hS (hL.st1 (fun j x _ h => qm_al_mem h) h))
    · cases hs
  | istore_n n =>
    simp only [qk_step] at hs
    split at hs
    · obtain ⟨hl, hs⟩ := qk_if hs
      cases hs
      have hln := hL.1
      exact lv_istore_n hx hb hd rfl hL.has (by omega) rfl (fun lsB h => kk0 _ _ _ rfl rfl hP hD hS (hL.st1 (fun j x _ h => qm_al_mem h) h))
    · cases hs
  | dup =>
    simp only [qk_step] at hs
    split at hs
    · cases hs
      exact lv_dup hx hb hd rfl (kk0 _ _ _ rfl rfl hP hD hS hL)
    · cases hs
  | new n =>
    simp only [qk_step] at hs
    split at hs
    · next ci hci =>
      obtain ⟨⟨hwf, hdf⟩, hs⟩ := qk_if hs
      cases hs
      obtain ⟨C, F, g1, g2, g3, g4, g5, g6⟩ := vNcl _ _ _ hci
      obtain ⟨w1, w2, w3, w4⟩ := qk_wfs_and hwf
      rw [qk_sz_push] at hsl
      simp only [List.length_append, List.length_singleton, qk_dfl, List.length_map, List.length_range] at hce hsl
      refine va_new (fs := (qk_dfl (qk_ty T ci) (qk_nf T ci)).map (qm_cv ad)) hx hb hts g2 (qk_ty T ci) g3 hown (hts _ g4) (hts _ g5) (hts _ g6) hK hP hD hS hA g1 (fun j hj => ?_) (by omega) (by omega) hd fun q H1 hP1 hD1 hS1 => ?_
      · rw [qk_V (v := qm_cv ad ((qk_def (qk_ty T ci j)).getD none)) (by rw [List.getElem?_map, qk_dfl_at hj]; rfl)]
        exact qk_def_ok (List.all_eq_true.mp hdf j (List.mem_range.mpr hj))
      · have hag : ∀ i, i < G.length ∨ i = 999 → (fun i => if i = G.length then q else ad i) i = ad i := fun i hi => by
          have : ¬ i = G.length := by omega
          simp [this]
        have hq : (fun i => if i = G.length then q else ad i) G.length = q := by simp
        generalize (fun i => if i = G.length then q else ad i) = ad' at hag hq
        have hnd : (qk_dfl (qk_ty T ci) (qk_nf T ci)).map (qm_cv ad) = (qk_dfl (qk_ty T ci) (qk_nf T ci)).map (qm_cv ad') := by
          refine List.map_congr_left fun v hv => ?_
          simp only [qk_dfl, List.mem_map] at hv
          obtain ⟨j, -, rfl⟩ := hv
          cases qk_ty T ci j <;> rfl
        have hws : qk_ws ad ac G ++ [(q, .inr (ci, (qk_dfl (qk_ty T ci) (qk_nf T ci)).map (qm_cv ad)))] = qk_ws ad' ac (G ++ [.inl (ci, qk_dfl (qk_ty T ci) (qk_nf T ci))]) := by
          rw [qk_ws_push, qk_ws_congr hag w3, hq, hnd]
          rfl
        rw [hws] at hP1 hD1
        have := kk ad' H1 locs lsA hag hP1 hD1 hS1 (qk_LH_congr hag w1 hL)
        rw [qk_sz_push, List.length_append, List.length_singleton, Nat.add_sub_cancel_left, Nat.add_sub_cancel_left] at this
        simp only [qk_dfl, List.length_map, List.length_range] at this
        have e1 : (some (.inr (.inr G.length)) :: st).map (qm_cv ad') = Value.ref q :: st.map (qm_cv ad) := by
          rw [List.map_cons, qk_map_congr hag w2]
          show Value.ref (ad' G.length) :: _ = _
          rw [hq]
        rw [e1] at this
        exact this
    · cases hs
  | newarray t =>
    simp only [qk_step] at hs
    split at hs
    · next z r kd hkd =>
      obtain ⟨⟨hwf, hz0, hz1⟩, hs⟩ := qk_if hs
      cases hs
      obtain ⟨ty, t1, t2, t3, t4, t5⟩ := qk_tyat (ac := ac) hkd
      obtain ⟨w1, w2, w3, w4⟩ := qk_wfs_and hwf
      rw [qk_sz_push] at hsl
      simp only [List.length_append, List.length_singleton] at hce hsl
      have hzz : Int32.ofInt z = Int32.ofNat z.toNat := by
        rw [← Int32.ofInt_eq_ofNat, Int.toNat_of_nonneg hz0]
      have hnn : (Int32.ofInt z).toNatClampNeg = z.toNat := (qm_idx (n := 65536) hz0 (by omega) (by omega)).2
      have hnz : ¬ Int32.ofInt z < 0 := by
        rw [← qm_0, qm_lt ⟨by omega, by omega⟩ ⟨by omega, by omega⟩]; omega
      refine va_newa (N' := z.toNat) (a0 := (z.toNat, if kd = 1 then .inr (.inl fun i => Int64.ofInt 0) else .inl fun i => Int32.ofInt 0)) (ty := ty) hx hb (hts _ (vArr t kd hkd)) t1 hK hP hD hS hA (fun cA => ?_) hnz hnn ?_ (by omega) (by omega) hd fun q cA H1 hK1 hP1 hD1 hS1 => ?_
      · rw [t5]
        by_cases hk1 : kd = 1
        · rw [if_pos hk1, if_pos hk1]; rfl
        · rw [if_neg hk1, if_neg hk1]; rfl
      · have : z.toNat * componentBytes ty ≤ 65536 * 8 := Nat.mul_le_mul (by omega) t4
        omega
      · have hcA : cA = ac kd := t3 cA s (hK1.2 (qm_tys ac).length (cA, ty) (by simp)).2 (hK.2 kd _ t2).2
        subst hcA
        have hag : ∀ i, i < G.length ∨ i = 999 → (fun i => if i = G.length then q else ad i) i = ad i := fun i hi => by
          have : ¬ i = G.length := by omega
          simp [this]
        have hq : (fun i => if i = G.length then q else ad i) G.length = q := by simp
        generalize (fun i => if i = G.length then q else ad i) = ad' at hag hq
        have hws : qk_ws ad ac G ++ [(q, .inl (ac kd, (z.toNat, if kd = 1 then .inr (.inl fun i => Int64.ofInt 0) else .inl fun i => Int32.ofInt 0)))] = qk_ws ad' ac (G ++ [.inr (kd, z.toNat, [])]) := by
          rw [qk_ws_push, qk_ws_congr hag w3, hq]
          rfl
        rw [hws] at hP1 hD1
        have := kk ad' H1 locs lsA hag hP1 hD1 hS1 (qk_LH_congr hag w1 hL)
        rw [qk_sz_push, List.length_append, List.length_singleton, Nat.add_sub_cancel_left, Nat.add_sub_cancel_left] at this
        have e1 : (some (.inr (.inr G.length)) :: r).map (qm_cv ad') = Value.ref q :: r.map (qm_cv ad) := by
          rw [List.map_cons, qk_map_congr hag w2]
          show Value.ref (ad' G.length) :: _ = _
          rw [hq]
        rw [e1] at this
        exact this
    · cases hs
  | putfield n =>
    simp only [qk_step] at hs
    split at hs
    · next v cc r ci j hfl =>
      split at hs
      · next ci' fs hg =>
        obtain ⟨⟨⟨h1, hj⟩, hfit⟩, hs⟩ := qk_if hs
        cases hs
        subst h1
        obtain ⟨C, F, nF, g1, g2, g3, g4, g5, g6, g7⟩ := vFld _ _ _ _ hfl
        have hn := qk_fit_ok (ad := ad) hfit
        have hws : (qk_ws ad ac G).set cc (ad cc, .inr (ci', (fs.map (qm_cv ad)).set j (qm_cv ad v))) = qk_ws ad ac (G.set cc (.inl (ci', fs.set j v))) := by
          rw [qk_fs_set, ← qk_ws_set]; rfl
        have fin : ∀ (H1 : Heap) (locs1 : List Loc), va_P D cl ((qk_ws ad ac G).set cc (ad cc, .inr (ci', (fs.map (qm_cv ad)).set j (qm_cv ad v)))) H1 → va_D A ((qk_ws ad ac G).set cc (ad cc, .inr (ci', (fs.map (qm_cv ad)).set j (qm_cv ad v)))) → va_S A H0 H1 locs1 → W p l e R s m args below meth c H1 locs1 cells slots Q (F0 m (pc + 3) lsA (st'.map (qm_cv ad))) := by
          intro H1 locs1 a1 a2 a3
          rw [hws] at a1 a2
          exact kk0 H1 locs1 lsA (by simp) (szset cc _ _ hg (by simp)) a1 a2 a3 hL
        cases hf : (F j).2.2.2 with
        | false => exact va_put (ref := (F j).1) hx hb hts g4 (qk_ty T ci') g5 g6 hown hK hP hD hS cc (qk_ws_at hg) g1 j g2 (hts _ g3) (fun _ h => h) hf (g5 j g2) hn.1 hn.2 (by simpa using hj) hd fin
        | true => exact va_putF (ref := (F j).1) hx hb hts g4 (qk_ty T ci') g5 g6 hown hK hP hD hS cc (qk_ws_at hg) g1 j g2 (hts _ g3) (fun _ h => h) hf (hini (vLaw _ _ _ _ hfl)) (g7 hf) (g5 j g2) hn.1 hn.2 (by simpa using hj) hd fin
      · cases hs
    · cases hs
  | getfield n =>
    simp only [qk_step] at hs
    split at hs
    · next cc r ci j hfl =>
      split at hs
      · next ci' fs hg =>
        obtain ⟨h1, hs2⟩ := qk_if hs
        subst h1
        clear hs
        split at hs2
        · next x hx1 =>
          cases hs2
          obtain ⟨C, F, nF, g1, g2, g3, g4, g5, g6, g7⟩ := vFld _ _ _ _ hfl
          exact va_get (ref := (F j).1) hx hb hts g4 hown hK hP cc (qk_ws_at hg) g1 j g2 (hts _ g3) (fun _ h => h) (v := qm_cv ad (some x)) (by rw [List.getElem?_map, hx1]; rfl) hd (kk0 _ _ _ rfl rfl hP hD hS hL)
        · cases hs2
      · cases hs
    · cases hs
  | castore =>
    simp only [qk_step] at hs
    split at hs
    · next z i cc r =>
      split at hs
      · next kd n w hg =>
        obtain ⟨⟨h1, ⟨h2, h3⟩, h4, h5, h6⟩, hs⟩ := qk_if hs
        cases hs
        subst h1
        have hi := qm_idx h2 h3 (by omega)
        refine va_cast hx hb hK hP hD hS cc 3 (f := fun i => Int32.ofInt (qk_f w i)) (qk_ws_at hg) (show (qm_tys ac)[3]? = some (ac 3, .char) from rfl) hi.1 hd fun H1 locs1 a1 a2 a3 => ?_
        have hz : vp_nar .char (Int32.ofInt z) = Int32.ofInt z := qk_narC h5 h6
        have hf : upd (fun i => Int32.ofInt (qk_f w i)) (Int32.ofInt i).toNatClampNeg (vp_nar .char (Int32.ofInt z)) = fun j => Int32.ofInt (qk_f ((i.toNat, z) :: w) j) := by
          rw [hi.2, hz]
          funext j
          simp only [upd, qk_f]
          split <;> rfl
        rw [hf] at a1 a2
        have hws : (qk_ws ad ac G).set cc (ad cc, .inl (ac 3, n, .inl fun j => Int32.ofInt (qk_f ((i.toNat, z) :: w) j))) = qk_ws ad ac (G.set cc (.inr (3, n, (i.toNat, z) :: w))) := by
          rw [← qk_ws_set]; rfl
        rw [hws] at a1 a2
        exact kk0 H1 locs1 lsA (by simp) (szset cc _ _ hg rfl) a1 a2 a3 hL
      · cases hs
    · cases hs
  | invokespecial n =>
    simp only [qk_step] at hs
    repeat' split at hs
    all_goals cases hs
  | _ =>
    simp only [qk_step] at hs
    repeat' split at hs
    all_goals cases hs
end QKP
