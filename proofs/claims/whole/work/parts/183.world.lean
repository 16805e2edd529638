/-! ===== the world that the constructors leave, by places (own work, printed by wip/whole/gen/world.py) ===== -/
def bRho (w : va_W) (d : Nat → Nat) (i : Nat) : Nat := match w[i]? with
  | some q => q.1
  | none => d i
theorem bRho_at {w : va_W} {d : Nat → Nat} {i : Nat} {q : Nat × va_E} (h : w[i]? = some q) : bRho w d i = q.1 := by
  unfold bRho
  rw [h]
theorem bRho_out {w : va_W} {d : Nat → Nat} {i : Nat} (h : w.length ≤ i) : bRho w d i = d i := by
  unfold bRho
  rw [List.getElem?_eq_none h]
theorem bRho_Ap {A : Nat → Prop} {w : va_W} {d : Nat → Nat} {SH : bShp} (hD : va_D A w) (hl : w.length = SH.length) : bAp A SH (bRho w d) := by
  have key : ∀ i, i < SH.length → ∃ q, w[i]? = some q ∧ bRho w d i = q.1 := fun i hi => by
    have h : w[i]? = some (w[i]'(by omega)) := List.getElem?_eq_getElem _
    exact ⟨_, h, bRho_at h⟩
  refine ⟨fun i j hi hj e => ?_, fun i hi => ?_⟩
  · obtain ⟨p, h1, e1⟩ := key i hi
    obtain ⟨q, h2, e2⟩ := key j hj
    exact hD.1 i j p q h1 h2 (by rw [← e1, ← e2, e])
  · obtain ⟨p, h1, e1⟩ := key i hi
    rw [e1]
    exact hD.2 i p h1
theorem bws_P {G : bG} {SH : bShp} {ρ : Nat → Nat} {σ : bSto} {H : Heap} (h : ∀ k sh, SH[k]? = some sh → va_at G.1 bcl (ρ k, bcel G ρ σ k sh) H) : va_P G.1 bcl (bws G SH ρ σ) H := by
  intro k q hq
  cases hs : SH[k]? with
  | none => simp [bws, hs] at hq
  | some sh =>
    rw [bws_at hs] at hq
    cases hq
    exact h k sh hs
def bMf (ρ : Nat → Nat) (σ : bSto) (o : Nat) : Nat → List Nat → List Value
  | _, [] => []
  | k, fd :: r => bfv ρ σ o k fd :: bMf ρ σ o (k + 1) r
theorem bMf_eq {ρ : Nat → Nat} {σ : bSto} {o : Nat} : ∀ (l : List Nat) (k : Nat), l.mapIdx (fun j fd => bfv ρ σ o (k + j) fd) = bMf ρ σ o k l
  | [], _ => rfl
  | fd :: r, k => by
    rw [List.mapIdx_cons, bMf, ← bMf_eq r (k + 1)]
    congr 1
    congr 1
    funext j fd'
    rw [show k + (j + 1) = k + 1 + j by omega]
theorem bcel_obj {G : bG} {ρ : Nat → Nat} {σ : bSto} {o q : Nat} {l : List Nat} : bcel G ρ σ o (q + 5, l) = .inr (q, bMf ρ σ o 0 l) := by
  rw [← bMf_eq l 0]
  show (Sum.inr (q, l.mapIdx fun k fd => bfv ρ σ o k fd) : va_E) = _
  congr 2
  congr 1
  funext j fd
  rw [Nat.zero_add]
theorem arrV_cg {c : ClassId} {N : Nat} {f g : Nat → Value} (h : ∀ i, i < N → f i = g i) : arrV c N f = arrV c N g := by
  have e : (fun j : Fin N => f j.val) = fun j : Fin N => g j.val := funext fun j => h j.1 j.2
  unfold arrV
  rw [e]
set_option maxHeartbeats 4000000 in
set_option maxRecDepth 20000 in
theorem world_first {G : bG} {H : Heap} {ρ : Nat → Nat} {h0 h1 q : Nat} {w1 w2 : va_W} (hw1 : Wp11 G h0 w1) (hw2 : Wp12 G h1 w2) (hP : va_P G.1 bcl ((w1 ++ w2) ++ [(q, .inl (G.2 3, (1, .inr (.inl (fun _ => 0)))))]) H) (he : ∀ (i : Nat) (x : Nat × va_E), ((w1 ++ w2) ++ [(q, .inl (G.2 3, (1, .inr (.inl (fun _ => 0)))))])[i]? = some x → ρ i = x.1) : va_P G.1 bcl (bws G bSHf ρ bS0) H := by
  obtain ⟨a1, a2, a3, a4, a5, a6, a7, a8, a9, a10, a11, a12, a13, a14, a15, a16, a17, a18, a19, a20, a21, a22, a23, a24, a25, a26, a27, a28, a29, a30, a31, a32, a33, a34, a35, a36, a37, r37, a54, r54, a58, a59, a60, a61, a62, a63, a64, a65, a66, a67, a68, a69, a70, a71, a72, a73, a74, a75, a76, a77, a78, a79, a80, a81, a82, a83, a84, a85, a86, a87, a88, a89, a90, a91, rfl⟩ := hw1
  obtain ⟨b1, b2, b3, b4, b5, b6, b7, b8, b9, b10, b11, b12, b13, b14, b15, b16, b17, rfl⟩ := hw2
  have e0 : ρ 0 = h0 := he 0 _ rfl
  have e1 : ρ 1 = a1 := he 1 _ rfl
  have e2 : ρ 2 = a2 := he 2 _ rfl
  have e3 : ρ 3 = a3 := he 3 _ rfl
  have e4 : ρ 4 = a4 := he 4 _ rfl
  have e5 : ρ 5 = a5 := he 5 _ rfl
  have e6 : ρ 6 = a6 := he 6 _ rfl
  have e7 : ρ 7 = a7 := he 7 _ rfl
  have e8 : ρ 8 = a8 := he 8 _ rfl
  have e9 : ρ 9 = a9 := he 9 _ rfl
  have e10 : ρ 10 = a10 := he 10 _ rfl
  have e11 : ρ 11 = a11 := he 11 _ rfl
  have e12 : ρ 12 = a12 := he 12 _ rfl
  have e13 : ρ 13 = a13 := he 13 _ rfl
  have e14 : ρ 14 = a14 := he 14 _ rfl
  have e15 : ρ 15 = a15 := he 15 _ rfl
  have e16 : ρ 16 = a16 := he 16 _ rfl
  have e17 : ρ 17 = a17 := he 17 _ rfl
  have e18 : ρ 18 = a18 := he 18 _ rfl
  have e19 : ρ 19 = a19 := he 19 _ rfl
  have e20 : ρ 20 = a20 := he 20 _ rfl
  have e21 : ρ 21 = a21 := he 21 _ rfl
  have e22 : ρ 22 = a22 := he 22 _ rfl
  have e23 : ρ 23 = a23 := he 23 _ rfl
  have e24 : ρ 24 = a24 := he 24 _ rfl
  have e25 : ρ 25 = a25 := he 25 _ rfl
  have e26 : ρ 26 = a26 := he 26 _ rfl
  have e27 : ρ 27 = a27 := he 27 _ rfl
  have e28 : ρ 28 = a28 := he 28 _ rfl
  have e29 : ρ 29 = a29 := he 29 _ rfl
  have e30 : ρ 30 = a30 := he 30 _ rfl
  have e31 : ρ 31 = a31 := he 31 _ rfl
  have e32 : ρ 32 = a32 := he 32 _ rfl
  have e33 : ρ 33 = a33 := he 33 _ rfl
  have e34 : ρ 34 = a34 := he 34 _ rfl
  have e35 : ρ 35 = a35 := he 35 _ rfl
  have e36 : ρ 36 = a36 := he 36 _ rfl
  have e37 : ρ 37 = a37 := he 37 _ rfl
  have e38 : ρ 38 = r37 0 := he 38 _ rfl
  have e39 : ρ 39 = r37 1 := he 39 _ rfl
  have e40 : ρ 40 = r37 2 := he 40 _ rfl
  have e41 : ρ 41 = r37 3 := he 41 _ rfl
  have e42 : ρ 42 = r37 4 := he 42 _ rfl
  have e43 : ρ 43 = r37 5 := he 43 _ rfl
  have e44 : ρ 44 = r37 6 := he 44 _ rfl
  have e45 : ρ 45 = r37 7 := he 45 _ rfl
  have e46 : ρ 46 = r37 8 := he 46 _ rfl
  have e47 : ρ 47 = r37 9 := he 47 _ rfl
  have e48 : ρ 48 = r37 10 := he 48 _ rfl
  have e49 : ρ 49 = r37 11 := he 49 _ rfl
  have e50 : ρ 50 = r37 12 := he 50 _ rfl
  have e51 : ρ 51 = r37 13 := he 51 _ rfl
  have e52 : ρ 52 = r37 14 := he 52 _ rfl
  have e53 : ρ 53 = r37 15 := he 53 _ rfl
  have e54 : ρ 54 = a54 := he 54 _ rfl
  have e55 : ρ 55 = r54 0 := he 55 _ rfl
  have e56 : ρ 56 = r54 1 := he 56 _ rfl
  have e57 : ρ 57 = r54 2 := he 57 _ rfl
  have e58 : ρ 58 = a58 := he 58 _ rfl
  have e59 : ρ 59 = a59 := he 59 _ rfl
  have e60 : ρ 60 = a60 := he 60 _ rfl
  have e61 : ρ 61 = a61 := he 61 _ rfl
  have e62 : ρ 62 = a62 := he 62 _ rfl
  have e63 : ρ 63 = a63 := he 63 _ rfl
  have e64 : ρ 64 = a64 := he 64 _ rfl
  have e65 : ρ 65 = a65 := he 65 _ rfl
  have e66 : ρ 66 = a66 := he 66 _ rfl
  have e67 : ρ 67 = a67 := he 67 _ rfl
  have e68 : ρ 68 = a68 := he 68 _ rfl
  have e69 : ρ 69 = a69 := he 69 _ rfl
  have e70 : ρ 70 = a70 := he 70 _ rfl
  have e71 : ρ 71 = a71 := he 71 _ rfl
  have e72 : ρ 72 = a72 := he 72 _ rfl
  have e73 : ρ 73 = a73 := he 73 _ rfl
  have e74 : ρ 74 = a74 := he 74 _ rfl
  have e75 : ρ 75 = a75 := he 75 _ rfl
  have e76 : ρ 76 = a76 := he 76 _ rfl
  have e77 : ρ 77 = a77 := he 77 _ rfl
  have e78 : ρ 78 = a78 := he 78 _ rfl
  have e79 : ρ 79 = a79 := he 79 _ rfl
  have e80 : ρ 80 = a80 := he 80 _ rfl
  have e81 : ρ 81 = a81 := he 81 _ rfl
  have e82 : ρ 82 = a82 := he 82 _ rfl
  have e83 : ρ 83 = a83 := he 83 _ rfl
  have e84 : ρ 84 = a84 := he 84 _ rfl
  have e85 : ρ 85 = a85 := he 85 _ rfl
  have e86 : ρ 86 = a86 := he 86 _ rfl
  have e87 : ρ 87 = a87 := he 87 _ rfl
  have e88 : ρ 88 = a88 := he 88 _ rfl
  have e89 : ρ 89 = a89 := he 89 _ rfl
  have e90 : ρ 90 = a90 := he 90 _ rfl
  have e91 : ρ 91 = a91 := he 91 _ rfl
  have e92 : ρ 92 = h1 := he 92 _ rfl
  have e93 : ρ 93 = b1 := he 93 _ rfl
  have e94 : ρ 94 = b2 := he 94 _ rfl
  have e95 : ρ 95 = b3 := he 95 _ rfl
  have e96 : ρ 96 = b4 := he 96 _ rfl
  have e97 : ρ 97 = b5 := he 97 _ rfl
  have e98 : ρ 98 = b6 := he 98 _ rfl
  have e99 : ρ 99 = b7 := he 99 _ rfl
  have e100 : ρ 100 = b8 := he 100 _ rfl
  have e101 : ρ 101 = b9 := he 101 _ rfl
  have e102 : ρ 102 = b10 := he 102 _ rfl
  have e103 : ρ 103 = b11 := he 103 _ rfl
  have e104 : ρ 104 = b12 := he 104 _ rfl
  have e105 : ρ 105 = b13 := he 105 _ rfl
  have e106 : ρ 106 = b14 := he 106 _ rfl
  have e107 : ρ 107 = b15 := he 107 _ rfl
  have e108 : ρ 108 = b16 := he 108 _ rfl
  have e109 : ρ 109 = b17 := he 109 _ rfl
  have e110 : ρ 110 = q := he 110 _ rfl
  clear he
  subst e0
  subst e1
  subst e2
  subst e3
  subst e4
  subst e5
  subst e6
  subst e7
  subst e8
  subst e9
  subst e10
  subst e11
  subst e12
  subst e13
  subst e14
  subst e15
  subst e16
  subst e17
  subst e18
  subst e19
  subst e20
  subst e21
  subst e22
  subst e23
  subst e24
  subst e25
  subst e26
  subst e27
  subst e28
  subst e29
  subst e30
  subst e31
  subst e32
  subst e33
  subst e34
  subst e35
  subst e36
  subst e37
  subst e54
  subst e58
  subst e59
  subst e60
  subst e61
  subst e62
  subst e63
  subst e64
  subst e65
  subst e66
  subst e67
  subst e68
  subst e69
  subst e70
  subst e71
  subst e72
  subst e73
  subst e74
  subst e75
  subst e76
  subst e77
  subst e78
  subst e79
  subst e80
  subst e81
  subst e82
  subst e83
  subst e84
  subst e85
  subst e86
  subst e87
  subst e88
  subst e89
  subst e90
  subst e91
  subst e92
  subst e93
  subst e94
  subst e95
  subst e96
  subst e97
  subst e98
  subst e99
  subst e100
  subst e101
  subst e102
  subst e103
  subst e104
  subst e105
  subst e106
  subst e107
  subst e108
  subst e109
  subst e110
  have hr37 : ∀ i, i < 16 → ρ (38 + i) = r37 i := fun i hi => match i, hi with
    | 0, _ => e38
    | 1, _ => e39
    | 2, _ => e40
    | 3, _ => e41
    | 4, _ => e42
    | 5, _ => e43
    | 6, _ => e44
    | 7, _ => e45
    | 8, _ => e46
    | 9, _ => e47
    | 10, _ => e48
    | 11, _ => e49
    | 12, _ => e50
    | 13, _ => e51
    | 14, _ => e52
    | 15, _ => e53
    | i + 16, h => absurd h (by omega)
  have hr54 : ∀ i, i < 3 → ρ (55 + i) = r54 i := fun i hi => match i, hi with
    | 0, _ => e55
    | 1, _ => e56
    | 2, _ => e57
    | i + 3, h => absurd h (by omega)
  refine bws_P (fun k sh hs => ?_)
  match k, hs with
  | 0, hs =>
    obtain rfl := Option.some.inj (sh_0.symm.trans hs)
    rw [show bcel G ρ bS0 0 (16, [5, 34, 37, 40, 62, 67, 70, 2, 0, 0, 0]) = .inr (11, bMf ρ bS0 0 0 [5, 34, 37, 40, 62, 67, 70, 2, 0, 0, 0]) from bcel_obj (q := 11)]
    exact hP 0 _ rfl
  | 1, hs =>
    obtain rfl := Option.some.inj (sh_1.symm.trans hs)
    rw [show bcel G ρ bS0 1 (14, [6, 8, 9, 10, 2, 0, 0, 0]) = .inr (9, bMf ρ bS0 1 0 [6, 8, 9, 10, 2, 0, 0, 0]) from bcel_obj (q := 9)]
    exact hP 1 _ rfl
  | 2, hs =>
    obtain rfl := Option.some.inj (sh_2.symm.trans hs)
    rw [show bcel G ρ bS0 2 (13, [7, 0, 0, 0, 0, 0, 0, 1]) = .inr (8, bMf ρ bS0 2 0 [7, 0, 0, 0, 0, 0, 0, 1]) from bcel_obj (q := 8)]
    exact hP 2 _ rfl
  | 3, hs =>
    obtain rfl := Option.some.inj (sh_3.symm.trans hs)
    exact hP 3 _ rfl
  | 4, hs =>
    obtain rfl := Option.some.inj (sh_4.symm.trans hs)
    exact hP 4 _ rfl
  | 5, hs =>
    obtain rfl := Option.some.inj (sh_5.symm.trans hs)
    exact hP 5 _ rfl
  | 6, hs =>
    obtain rfl := Option.some.inj (sh_6.symm.trans hs)
    exact hP 6 _ rfl
  | 7, hs =>
    obtain rfl := Option.some.inj (sh_7.symm.trans hs)
    rw [show bcel G ρ bS0 7 (12, [12, 18, 26, 31, 0]) = .inr (7, bMf ρ bS0 7 0 [12, 18, 26, 31, 0]) from bcel_obj (q := 7)]
    exact hP 7 _ rfl
  | 8, hs =>
    obtain rfl := Option.some.inj (sh_8.symm.trans hs)
    rw [show bcel G ρ bS0 8 (8, [13, 14, 15, 16, 17, 0, 0, 0, 0, 0, 0]) = .inr (3, bMf ρ bS0 8 0 [13, 14, 15, 16, 17, 0, 0, 0, 0, 0, 0]) from bcel_obj (q := 3)]
    exact hP 8 _ rfl
  | 9, hs =>
    obtain rfl := Option.some.inj (sh_9.symm.trans hs)
    exact hP 9 _ rfl
  | 10, hs =>
    obtain rfl := Option.some.inj (sh_10.symm.trans hs)
    exact hP 10 _ rfl
  | 11, hs =>
    obtain rfl := Option.some.inj (sh_11.symm.trans hs)
    exact hP 11 _ rfl
  | 12, hs =>
    obtain rfl := Option.some.inj (sh_12.symm.trans hs)
    exact hP 12 _ rfl
  | 13, hs =>
    obtain rfl := Option.some.inj (sh_13.symm.trans hs)
    exact hP 13 _ rfl
  | 14, hs =>
    obtain rfl := Option.some.inj (sh_14.symm.trans hs)
    rw [show bcel G ρ bS0 14 (7, [19, 20, 21, 22, 23, 24, 25, 0, 0, 0]) = .inr (2, bMf ρ bS0 14 0 [19, 20, 21, 22, 23, 24, 25, 0, 0, 0]) from bcel_obj (q := 2)]
    exact hP 14 _ rfl
  | 15, hs =>
    obtain rfl := Option.some.inj (sh_15.symm.trans hs)
    exact hP 15 _ rfl
  | 16, hs =>
    obtain rfl := Option.some.inj (sh_16.symm.trans hs)
    exact hP 16 _ rfl
  | 17, hs =>
    obtain rfl := Option.some.inj (sh_17.symm.trans hs)
    exact hP 17 _ rfl
  | 18, hs =>
    obtain rfl := Option.some.inj (sh_18.symm.trans hs)
    exact hP 18 _ rfl
  | 19, hs =>
    obtain rfl := Option.some.inj (sh_19.symm.trans hs)
    exact hP 19 _ rfl
  | 20, hs =>
    obtain rfl := Option.some.inj (sh_20.symm.trans hs)
    exact hP 20 _ rfl
  | 21, hs =>
    obtain rfl := Option.some.inj (sh_21.symm.trans hs)
    exact hP 21 _ rfl
  | 22, hs =>
    obtain rfl := Option.some.inj (sh_22.symm.trans hs)
    rw [show bcel G ρ bS0 22 (15, [27, 28, 29, 30, 0, 0, 0]) = .inr (10, bMf ρ bS0 22 0 [27, 28, 29, 30, 0, 0, 0]) from bcel_obj (q := 10)]
    exact hP 22 _ rfl
  | 23, hs =>
    obtain rfl := Option.some.inj (sh_23.symm.trans hs)
    exact hP 23 _ rfl
  | 24, hs =>
    obtain rfl := Option.some.inj (sh_24.symm.trans hs)
    exact hP 24 _ rfl
  | 25, hs =>
    obtain rfl := Option.some.inj (sh_25.symm.trans hs)
    exact hP 25 _ rfl
  | 26, hs =>
    obtain rfl := Option.some.inj (sh_26.symm.trans hs)
    exact hP 26 _ rfl
  | 27, hs =>
    obtain rfl := Option.some.inj (sh_27.symm.trans hs)
    rw [show bcel G ρ bS0 27 (9, [32, 33, 0, 0]) = .inr (4, bMf ρ bS0 27 0 [32, 33, 0, 0]) from bcel_obj (q := 4)]
    exact hP 27 _ rfl
  | 28, hs =>
    obtain rfl := Option.some.inj (sh_28.symm.trans hs)
    exact hP 28 _ rfl
  | 29, hs =>
    obtain rfl := Option.some.inj (sh_29.symm.trans hs)
    exact hP 29 _ rfl
  | 30, hs =>
    obtain rfl := Option.some.inj (sh_30.symm.trans hs)
    rw [show bcel G ρ bS0 30 (9, [35, 36, 0, 0]) = .inr (4, bMf ρ bS0 30 0 [35, 36, 0, 0]) from bcel_obj (q := 4)]
    exact hP 30 _ rfl
  | 31, hs =>
    obtain rfl := Option.some.inj (sh_31.symm.trans hs)
    exact hP 31 _ rfl
  | 32, hs =>
    obtain rfl := Option.some.inj (sh_32.symm.trans hs)
    exact hP 32 _ rfl
  | 33, hs =>
    obtain rfl := Option.some.inj (sh_33.symm.trans hs)
    rw [show bcel G ρ bS0 33 (9, [38, 39, 0, 0]) = .inr (4, bMf ρ bS0 33 0 [38, 39, 0, 0]) from bcel_obj (q := 4)]
    exact hP 33 _ rfl
  | 34, hs =>
    obtain rfl := Option.some.inj (sh_34.symm.trans hs)
    exact hP 34 _ rfl
  | 35, hs =>
    obtain rfl := Option.some.inj (sh_35.symm.trans hs)
    exact hP 35 _ rfl
  | 36, hs =>
    obtain rfl := Option.some.inj (sh_36.symm.trans hs)
    rw [show bcel G ρ bS0 36 (11, [41, 58, 0, 0, 0]) = .inr (6, bMf ρ bS0 36 0 [41, 58, 0, 0, 0]) from bcel_obj (q := 6)]
    exact hP 36 _ rfl
  | 37, hs =>
    obtain rfl := Option.some.inj (sh_37.symm.trans hs)
    show H[ρ 37]? = some (vp_cell (G.2 4) (16, .inr (.inr (.inr (.inr (fun i => some (ρ (38 + i))))))))
    rw [show vp_cell (G.2 4) (16, .inr (.inr (.inr (.inr (fun i => some (ρ (38 + i))))))) = vp_cell (G.2 4) (16, .inr (.inr (.inr (.inr (fun i => if i < 16 then some (r37 i) else none))))) from by rw [vp_cell_q, vp_cell_q]; exact arrV_cg (fun i hi => by rw [if_pos hi, hr37 i hi])]
    exact hP 37 _ rfl
  | 38, hs =>
    obtain rfl := Option.some.inj (sh_38.symm.trans hs)
    rw [e38]
    exact hP 38 _ rfl
  | 39, hs =>
    obtain rfl := Option.some.inj (sh_39.symm.trans hs)
    rw [e39]
    exact hP 39 _ rfl
  | 40, hs =>
    obtain rfl := Option.some.inj (sh_40.symm.trans hs)
    rw [e40]
    exact hP 40 _ rfl
  | 41, hs =>
    obtain rfl := Option.some.inj (sh_41.symm.trans hs)
    rw [e41]
    exact hP 41 _ rfl
  | 42, hs =>
    obtain rfl := Option.some.inj (sh_42.symm.trans hs)
    rw [e42]
    exact hP 42 _ rfl
  | 43, hs =>
    obtain rfl := Option.some.inj (sh_43.symm.trans hs)
    rw [e43]
    exact hP 43 _ rfl
  | 44, hs =>
    obtain rfl := Option.some.inj (sh_44.symm.trans hs)
    rw [e44]
    exact hP 44 _ rfl
  | 45, hs =>
    obtain rfl := Option.some.inj (sh_45.symm.trans hs)
    rw [e45]
    exact hP 45 _ rfl
  | 46, hs =>
    obtain rfl := Option.some.inj (sh_46.symm.trans hs)
    rw [e46]
    exact hP 46 _ rfl
  | 47, hs =>
    obtain rfl := Option.some.inj (sh_47.symm.trans hs)
    rw [e47]
    exact hP 47 _ rfl
  | 48, hs =>
    obtain rfl := Option.some.inj (sh_48.symm.trans hs)
    rw [e48]
    exact hP 48 _ rfl
  | 49, hs =>
    obtain rfl := Option.some.inj (sh_49.symm.trans hs)
    rw [e49]
    exact hP 49 _ rfl
  | 50, hs =>
    obtain rfl := Option.some.inj (sh_50.symm.trans hs)
    rw [e50]
    exact hP 50 _ rfl
  | 51, hs =>
    obtain rfl := Option.some.inj (sh_51.symm.trans hs)
    rw [e51]
    exact hP 51 _ rfl
  | 52, hs =>
    obtain rfl := Option.some.inj (sh_52.symm.trans hs)
    rw [e52]
    exact hP 52 _ rfl
  | 53, hs =>
    obtain rfl := Option.some.inj (sh_53.symm.trans hs)
    rw [e53]
    exact hP 53 _ rfl
  | 54, hs =>
    obtain rfl := Option.some.inj (sh_54.symm.trans hs)
    show H[ρ 54]? = some (vp_cell (G.2 4) (3, .inr (.inr (.inr (.inr (fun i => some (ρ (55 + i))))))))
    rw [show vp_cell (G.2 4) (3, .inr (.inr (.inr (.inr (fun i => some (ρ (55 + i))))))) = vp_cell (G.2 4) (3, .inr (.inr (.inr (.inr (fun i => if i < 3 then some (r54 i) else none))))) from by rw [vp_cell_q, vp_cell_q]; exact arrV_cg (fun i hi => by rw [if_pos hi, hr54 i hi])]
    exact hP 54 _ rfl
  | 55, hs =>
    obtain rfl := Option.some.inj (sh_55.symm.trans hs)
    rw [e55]
    exact hP 55 _ rfl
  | 56, hs =>
    obtain rfl := Option.some.inj (sh_56.symm.trans hs)
    rw [e56]
    exact hP 56 _ rfl
  | 57, hs =>
    obtain rfl := Option.some.inj (sh_57.symm.trans hs)
    rw [e57]
    exact hP 57 _ rfl
  | 58, hs =>
    obtain rfl := Option.some.inj (sh_58.symm.trans hs)
    rw [show bcel G ρ bS0 58 (10, [63, 64, 65, 66, 0, 0, 0]) = .inr (5, bMf ρ bS0 58 0 [63, 64, 65, 66, 0, 0, 0]) from bcel_obj (q := 5)]
    exact hP 58 _ rfl
  | 59, hs =>
    obtain rfl := Option.some.inj (sh_59.symm.trans hs)
    exact hP 59 _ rfl
  | 60, hs =>
    obtain rfl := Option.some.inj (sh_60.symm.trans hs)
    exact hP 60 _ rfl
  | 61, hs =>
    obtain rfl := Option.some.inj (sh_61.symm.trans hs)
    exact hP 61 _ rfl
  | 62, hs =>
    obtain rfl := Option.some.inj (sh_62.symm.trans hs)
    exact hP 62 _ rfl
  | 63, hs =>
    obtain rfl := Option.some.inj (sh_63.symm.trans hs)
    rw [show bcel G ρ bS0 63 (5, [68, 69]) = .inr (0, bMf ρ bS0 63 0 [68, 69]) from bcel_obj (q := 0)]
    exact hP 63 _ rfl
  | 64, hs =>
    obtain rfl := Option.some.inj (sh_64.symm.trans hs)
    exact hP 64 _ rfl
  | 65, hs =>
    obtain rfl := Option.some.inj (sh_65.symm.trans hs)
    exact hP 65 _ rfl
  | 66, hs =>
    obtain rfl := Option.some.inj (sh_66.symm.trans hs)
    rw [show bcel G ρ bS0 66 (6, [71, 72]) = .inr (1, bMf ρ bS0 66 0 [71, 72]) from bcel_obj (q := 1)]
    exact hP 66 _ rfl
  | 67, hs =>
    obtain rfl := Option.some.inj (sh_67.symm.trans hs)
    exact hP 67 _ rfl
  | 68, hs =>
    obtain rfl := Option.some.inj (sh_68.symm.trans hs)
    exact hP 68 _ rfl
  | 69, hs =>
    obtain rfl := Option.some.inj (sh_69.symm.trans hs)
    rw [show bcel G ρ bS0 69 (12, [74, 80, 88, 93, 0]) = .inr (7, bMf ρ bS0 69 0 [74, 80, 88, 93, 0]) from bcel_obj (q := 7)]
    exact hP 69 _ rfl
  | 70, hs =>
    obtain rfl := Option.some.inj (sh_70.symm.trans hs)
    rw [show bcel G ρ bS0 70 (8, [75, 76, 77, 78, 79, 0, 0, 0, 0, 0, 0]) = .inr (3, bMf ρ bS0 70 0 [75, 76, 77, 78, 79, 0, 0, 0, 0, 0, 0]) from bcel_obj (q := 3)]
    exact hP 70 _ rfl
  | 71, hs =>
    obtain rfl := Option.some.inj (sh_71.symm.trans hs)
    exact hP 71 _ rfl
  | 72, hs =>
    obtain rfl := Option.some.inj (sh_72.symm.trans hs)
    exact hP 72 _ rfl
  | 73, hs =>
    obtain rfl := Option.some.inj (sh_73.symm.trans hs)
    exact hP 73 _ rfl
  | 74, hs =>
    obtain rfl := Option.some.inj (sh_74.symm.trans hs)
    exact hP 74 _ rfl
  | 75, hs =>
    obtain rfl := Option.some.inj (sh_75.symm.trans hs)
    exact hP 75 _ rfl
  | 76, hs =>
    obtain rfl := Option.some.inj (sh_76.symm.trans hs)
    rw [show bcel G ρ bS0 76 (7, [81, 82, 83, 84, 85, 86, 87, 0, 0, 0]) = .inr (2, bMf ρ bS0 76 0 [81, 82, 83, 84, 85, 86, 87, 0, 0, 0]) from bcel_obj (q := 2)]
    exact hP 76 _ rfl
  | 77, hs =>
    obtain rfl := Option.some.inj (sh_77.symm.trans hs)
    exact hP 77 _ rfl
  | 78, hs =>
    obtain rfl := Option.some.inj (sh_78.symm.trans hs)
    exact hP 78 _ rfl
  | 79, hs =>
    obtain rfl := Option.some.inj (sh_79.symm.trans hs)
    exact hP 79 _ rfl
  | 80, hs =>
    obtain rfl := Option.some.inj (sh_80.symm.trans hs)
    exact hP 80 _ rfl
  | 81, hs =>
    obtain rfl := Option.some.inj (sh_81.symm.trans hs)
    exact hP 81 _ rfl
  | 82, hs =>
    obtain rfl := Option.some.inj (sh_82.symm.trans hs)
    exact hP 82 _ rfl
  | 83, hs =>
    obtain rfl := Option.some.inj (sh_83.symm.trans hs)
    exact hP 83 _ rfl
  | 84, hs =>
    obtain rfl := Option.some.inj (sh_84.symm.trans hs)
    rw [show bcel G ρ bS0 84 (15, [89, 90, 91, 92, 0, 0, 0]) = .inr (10, bMf ρ bS0 84 0 [89, 90, 91, 92, 0, 0, 0]) from bcel_obj (q := 10)]
    exact hP 84 _ rfl
  | 85, hs =>
    obtain rfl := Option.some.inj (sh_85.symm.trans hs)
    exact hP 85 _ rfl
  | 86, hs =>
    obtain rfl := Option.some.inj (sh_86.symm.trans hs)
    exact hP 86 _ rfl
  | 87, hs =>
    obtain rfl := Option.some.inj (sh_87.symm.trans hs)
    exact hP 87 _ rfl
  | 88, hs =>
    obtain rfl := Option.some.inj (sh_88.symm.trans hs)
    exact hP 88 _ rfl
  | 89, hs =>
    obtain rfl := Option.some.inj (sh_89.symm.trans hs)
    rw [show bcel G ρ bS0 89 (9, [94, 95, 0, 0]) = .inr (4, bMf ρ bS0 89 0 [94, 95, 0, 0]) from bcel_obj (q := 4)]
    exact hP 89 _ rfl
  | 90, hs =>
    obtain rfl := Option.some.inj (sh_90.symm.trans hs)
    exact hP 90 _ rfl
  | 91, hs =>
    obtain rfl := Option.some.inj (sh_91.symm.trans hs)
    exact hP 91 _ rfl
  | 92, hs =>
    obtain rfl := Option.some.inj (sh_92.symm.trans hs)
    rw [show bcel G ρ bS0 92 (17, [0, 97, 0, 0, 0, 0, 0, 0, 0, 0, 0, 0, 98, 0, 0, 99, 100, 101, 102, 103, 0, 0, 104, 105, 106, 0, 0, 107, 108, 109, 0, 110, 111, 0, 112, 113]) = .inr (12, bMf ρ bS0 92 0 [0, 97, 0, 0, 0, 0, 0, 0, 0, 0, 0, 0, 98, 0, 0, 99, 100, 101, 102, 103, 0, 0, 104, 105, 106, 0, 0, 107, 108, 109, 0, 110, 111, 0, 112, 113]) from bcel_obj (q := 12)]
    exact hP 92 _ rfl
  | 93, hs =>
    obtain rfl := Option.some.inj (sh_93.symm.trans hs)
    exact hP 93 _ rfl
  | 94, hs =>
    obtain rfl := Option.some.inj (sh_94.symm.trans hs)
    exact hP 94 _ rfl
  | 95, hs =>
    obtain rfl := Option.some.inj (sh_95.symm.trans hs)
    exact hP 95 _ rfl
  | 96, hs =>
    obtain rfl := Option.some.inj (sh_96.symm.trans hs)
    exact hP 96 _ rfl
  | 97, hs =>
    obtain rfl := Option.some.inj (sh_97.symm.trans hs)
    exact hP 97 _ rfl
  | 98, hs =>
    obtain rfl := Option.some.inj (sh_98.symm.trans hs)
    exact hP 98 _ rfl
  | 99, hs =>
    obtain rfl := Option.some.inj (sh_99.symm.trans hs)
    exact hP 99 _ rfl
  | 100, hs =>
    obtain rfl := Option.some.inj (sh_100.symm.trans hs)
    exact hP 100 _ rfl
  | 101, hs =>
    obtain rfl := Option.some.inj (sh_101.symm.trans hs)
    exact hP 101 _ rfl
  | 102, hs =>
    obtain rfl := Option.some.inj (sh_102.symm.trans hs)
    exact hP 102 _ rfl
  | 103, hs =>
    obtain rfl := Option.some.inj (sh_103.symm.trans hs)
    exact hP 103 _ rfl
  | 104, hs =>
    obtain rfl := Option.some.inj (sh_104.symm.trans hs)
    exact hP 104 _ rfl
  | 105, hs =>
    obtain rfl := Option.some.inj (sh_105.symm.trans hs)
    exact hP 105 _ rfl
  | 106, hs =>
    obtain rfl := Option.some.inj (sh_106.symm.trans hs)
    exact hP 106 _ rfl
  | 107, hs =>
    obtain rfl := Option.some.inj (sh_107.symm.trans hs)
    exact hP 107 _ rfl
  | 108, hs =>
    obtain rfl := Option.some.inj (sh_108.symm.trans hs)
    exact hP 108 _ rfl
  | 109, hs =>
    obtain rfl := Option.some.inj (sh_109.symm.trans hs)
    exact hP 109 _ rfl
  | 110, hs =>
    obtain rfl := Option.some.inj (sh_110.symm.trans hs)
    exact hP 110 _ rfl
  | k + 111, hs => simp [bSHf] at hs
