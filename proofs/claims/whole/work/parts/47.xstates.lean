/-! the class: its states are the score's states -/
def xal (S : sc_S) (m s : Nat) : Prop := xfit S m (s % p3 (S 4 m)) ∧ xkey S m (s / p3 (S 4 m))
def xc (S : sc_S) (m s : Nat) : Nat := xpaid S m (s % p3 (S 4 m)) (S 4 m) + S 6 0 * xout S m (s / p3 (S 4 m)) (s % p3 (S 4 m)) (S 4 m)
def xg (S : sc_S) (m s : Nat) : Nat := xsgn S m (s % p3 (S 4 m)) (S 4 m)
def xv (S : sc_S) (m s : Nat) : Nat := 64 * xc S m s + xg S m s
def xlk (S : sc_S) (m s t : Nat) : Nat := S 6 4 * sc_kd (s / p3 (S 4 m)) (t / p3 (S 4 (m + 1))) + sc_sum (min (S 4 m) (S 4 (m + 1))) (fun j => xst S m j (xdg (S 4 m) s j) (xdg (S 4 (m + 1)) t j))
def xN (S : sc_S) (m : Nat) : Nat := 15 * p3 (S 4 m)
theorem xst_0 {S : sc_S} {m p : Nat} (h : ¬ p < min (S 4 m) (S 4 (m + 1))) (d e : Nat) : xst S m p d e = 0 := if_neg h
theorem xL_11 {S : sc_S} {m key pick t : Nat} (h1 : S 4 m = 1) (h2 : S 4 (m + 1) = 1) (hk : key < 15) (hp : pick < 3) (ht : t < 45) : xL S m 1 (3 * key + pick * 3 / 3) t = S 6 4 * sc_kd ((3 * key + pick) / p3 1) (t / p3 1) + sc_sum (min 1 1) (fun j => xst S m j (xdg 1 (3 * key + pick) j) (xdg 1 t j)) := by
  show S 6 4 * sc_kd ((3 * key + pick * 3 / 3) / 3 % 15) (t / 3 % 15) + xst S m 0 ((3 * key + pick * 3 / 3) % 3) (t % 3) = S 6 4 * sc_kd ((3 * key + pick) / 3) (t / 3) + (0 + xst S m 0 ((3 * key + pick) / 1 % 3) (t / 1 % 3))
  have d0 : (3 * key + pick * 3 / 3) % 3 = (3 * key + pick) / 1 % 3 := by omega
  have e0 : t % 3 = t / 1 % 3 := by omega
  have dk : (3 * key + pick * 3 / 3) / 3 % 15 = (3 * key + pick) / 3 := by omega
  have ek : t / 3 % 15 = t / 3 := by omega
  rw [dk, ek, d0, e0]
  omega
theorem xL_12 {S : sc_S} {m key pick t : Nat} (h1 : S 4 m = 1) (h2 : S 4 (m + 1) = 2) (hk : key < 15) (hp : pick < 3) (ht : t < 135) : xL S m 2 (9 * key + pick * 9 / 3) t = S 6 4 * sc_kd ((3 * key + pick) / p3 1) (t / p3 2) + sc_sum (min 1 2) (fun j => xst S m j (xdg 1 (3 * key + pick) j) (xdg 2 t j)) := by
  show S 6 4 * sc_kd ((9 * key + pick * 9 / 3) / 3 / 3 % 15) (t / 3 / 3 % 15) + xst S m 0 ((9 * key + pick * 9 / 3) / 3 % 3) (t / 3 % 3) + xst S m 1 ((9 * key + pick * 9 / 3) % 3) (t % 3) = S 6 4 * sc_kd ((3 * key + pick) / 3) (t / 9) + (0 + xst S m 0 ((3 * key + pick) / 1 % 3) (t / 3 % 3))
  have d0 : (9 * key + pick * 9 / 3) / 3 % 3 = (3 * key + pick) / 1 % 3 := by omega
  have e0 : t / 3 % 3 = t / 3 % 3 := by omega
  have dk : (9 * key + pick * 9 / 3) / 3 / 3 % 15 = (3 * key + pick) / 3 := by omega
  have ek : t / 3 / 3 % 15 = t / 9 := by omega
  have z1 := xst_0 (S := S) (m := m) (p := 1) (by rw [h1, h2]; decide) ((9 * key + pick * 9 / 3) % 3) (t % 3)
  rw [dk, ek, d0, e0, z1]
  omega
theorem xL_13 {S : sc_S} {m key pick t : Nat} (h1 : S 4 m = 1) (h2 : S 4 (m + 1) = 3) (hk : key < 15) (hp : pick < 3) (ht : t < 405) : xL S m 3 (27 * key + pick * 27 / 3) t = S 6 4 * sc_kd ((3 * key + pick) / p3 1) (t / p3 3) + sc_sum (min 1 3) (fun j => xst S m j (xdg 1 (3 * key + pick) j) (xdg 3 t j)) := by
  show S 6 4 * sc_kd ((27 * key + pick * 27 / 3) / 3 / 3 / 3 % 15) (t / 3 / 3 / 3 % 15) + xst S m 0 ((27 * key + pick * 27 / 3) / 3 / 3 % 3) (t / 3 / 3 % 3) + xst S m 1 ((27 * key + pick * 27 / 3) / 3 % 3) (t / 3 % 3) + xst S m 2 ((27 * key + pick * 27 / 3) % 3) (t % 3) = S 6 4 * sc_kd ((3 * key + pick) / 3) (t / 27) + (0 + xst S m 0 ((3 * key + pick) / 1 % 3) (t / 9 % 3))
  have d0 : (27 * key + pick * 27 / 3) / 3 / 3 % 3 = (3 * key + pick) / 1 % 3 := by omega
  have e0 : t / 3 / 3 % 3 = t / 9 % 3 := by omega
  have dk : (27 * key + pick * 27 / 3) / 3 / 3 / 3 % 15 = (3 * key + pick) / 3 := by omega
  have ek : t / 3 / 3 / 3 % 15 = t / 27 := by omega
  have z1 := xst_0 (S := S) (m := m) (p := 1) (by rw [h1, h2]; decide) ((27 * key + pick * 27 / 3) / 3 % 3) (t / 3 % 3)
  have z2 := xst_0 (S := S) (m := m) (p := 2) (by rw [h1, h2]; decide) ((27 * key + pick * 27 / 3) % 3) (t % 3)
  rw [dk, ek, d0, e0, z1, z2]
  omega
theorem xL_21 {S : sc_S} {m key pick t : Nat} (h1 : S 4 m = 2) (h2 : S 4 (m + 1) = 1) (hk : key < 15) (hp : pick < 9) (ht : t < 45) : xL S m 1 (3 * key + pick * 3 / 9) t = S 6 4 * sc_kd ((9 * key + pick) / p3 2) (t / p3 1) + sc_sum (min 2 1) (fun j => xst S m j (xdg 2 (9 * key + pick) j) (xdg 1 t j)) := by
  show S 6 4 * sc_kd ((3 * key + pick * 3 / 9) / 3 % 15) (t / 3 % 15) + xst S m 0 ((3 * key + pick * 3 / 9) % 3) (t % 3) = S 6 4 * sc_kd ((9 * key + pick) / 9) (t / 3) + (0 + xst S m 0 ((9 * key + pick) / 3 % 3) (t / 1 % 3))
  have d0 : (3 * key + pick * 3 / 9) % 3 = (9 * key + pick) / 3 % 3 := by omega
  have e0 : t % 3 = t / 1 % 3 := by omega
  have dk : (3 * key + pick * 3 / 9) / 3 % 15 = (9 * key + pick) / 9 := by omega
  have ek : t / 3 % 15 = t / 3 := by omega
  rw [dk, ek, d0, e0]
  omega
theorem xL_22 {S : sc_S} {m key pick t : Nat} (h1 : S 4 m = 2) (h2 : S 4 (m + 1) = 2) (hk : key < 15) (hp : pick < 9) (ht : t < 135) : xL S m 2 (9 * key + pick * 9 / 9) t = S 6 4 * sc_kd ((9 * key + pick) / p3 2) (t / p3 2) + sc_sum (min 2 2) (fun j => xst S m j (xdg 2 (9 * key + pick) j) (xdg 2 t j)) := by
  show S 6 4 * sc_kd ((9 * key + pick * 9 / 9) / 3 / 3 % 15) (t / 3 / 3 % 15) + xst S m 0 ((9 * key + pick * 9 / 9) / 3 % 3) (t / 3 % 3) + xst S m 1 ((9 * key + pick * 9 / 9) % 3) (t % 3) = S 6 4 * sc_kd ((9 * key + pick) / 9) (t / 9) + (0 + xst S m 0 ((9 * key + pick) / 3 % 3) (t / 3 % 3) + xst S m 1 ((9 * key + pick) / 1 % 3) (t / 1 % 3))
  have d0 : (9 * key + pick * 9 / 9) / 3 % 3 = (9 * key + pick) / 3 % 3 := by omega
  have e0 : t / 3 % 3 = t / 3 % 3 := by omega
  have d1 : (9 * key + pick * 9 / 9) % 3 = (9 * key + pick) / 1 % 3 := by omega
  have e1 : t % 3 = t / 1 % 3 := by omega
  have dk : (9 * key + pick * 9 / 9) / 3 / 3 % 15 = (9 * key + pick) / 9 := by omega
  have ek : t / 3 / 3 % 15 = t / 9 := by omega
  rw [dk, ek, d0, e0, d1, e1]
  omega
theorem xL_23 {S : sc_S} {m key pick t : Nat} (h1 : S 4 m = 2) (h2 : S 4 (m + 1) = 3) (hk : key < 15) (hp : pick < 9) (ht : t < 405) : xL S m 3 (27 * key + pick * 27 / 9) t = S 6 4 * sc_kd ((9 * key + pick) / p3 2) (t / p3 3) + sc_sum (min 2 3) (fun j => xst S m j (xdg 2 (9 * key + pick) j) (xdg 3 t j)) := by
  show S 6 4 * sc_kd ((27 * key + pick * 27 / 9) / 3 / 3 / 3 % 15) (t / 3 / 3 / 3 % 15) + xst S m 0 ((27 * key + pick * 27 / 9) / 3 / 3 % 3) (t / 3 / 3 % 3) + xst S m 1 ((27 * key + pick * 27 / 9) / 3 % 3) (t / 3 % 3) + xst S m 2 ((27 * key + pick * 27 / 9) % 3) (t % 3) = S 6 4 * sc_kd ((9 * key + pick) / 9) (t / 27) + (0 + xst S m 0 ((9 * key + pick) / 3 % 3) (t / 9 % 3) + xst S m 1 ((9 * key + pick) / 1 % 3) (t / 3 % 3))
  have d0 : (27 * key + pick * 27 / 9) / 3 / 3 % 3 = (9 * key + pick) / 3 % 3 := by omega
  have e0 : t / 3 / 3 % 3 = t / 9 % 3 := by omega
  have d1 : (27 * key + pick * 27 / 9) / 3 % 3 = (9 * key + pick) / 1 % 3 := by omega
  have e1 : t / 3 % 3 = t / 3 % 3 := by omega
  have dk : (27 * key + pick * 27 / 9) / 3 / 3 / 3 % 15 = (9 * key + pick) / 9 := by omega
  have ek : t / 3 / 3 / 3 % 15 = t / 27 := by omega
  have z2 := xst_0 (S := S) (m := m) (p := 2) (by rw [h1, h2]; decide) ((27 * key + pick * 27 / 9) % 3) (t % 3)
  rw [dk, ek, d0, e0, d1, e1, z2]
  omega
theorem xL_31 {S : sc_S} {m key pick t : Nat} (h1 : S 4 m = 3) (h2 : S 4 (m + 1) = 1) (hk : key < 15) (hp : pick < 27) (ht : t < 45) : xL S m 1 (3 * key + pick * 3 / 27) t = S 6 4 * sc_kd ((27 * key + pick) / p3 3) (t / p3 1) + sc_sum (min 3 1) (fun j => xst S m j (xdg 3 (27 * key + pick) j) (xdg 1 t j)) := by
  show S 6 4 * sc_kd ((3 * key + pick * 3 / 27) / 3 % 15) (t / 3 % 15) + xst S m 0 ((3 * key + pick * 3 / 27) % 3) (t % 3) = S 6 4 * sc_kd ((27 * key + pick) / 27) (t / 3) + (0 + xst S m 0 ((27 * key + pick) / 9 % 3) (t / 1 % 3))
  have d0 : (3 * key + pick * 3 / 27) % 3 = (27 * key + pick) / 9 % 3 := by omega
  have e0 : t % 3 = t / 1 % 3 := by omega
  have dk : (3 * key + pick * 3 / 27) / 3 % 15 = (27 * key + pick) / 27 := by omega
  have ek : t / 3 % 15 = t / 3 := by omega
  rw [dk, ek, d0, e0]
  omega
theorem xL_32 {S : sc_S} {m key pick t : Nat} (h1 : S 4 m = 3) (h2 : S 4 (m + 1) = 2) (hk : key < 15) (hp : pick < 27) (ht : t < 135) : xL S m 2 (9 * key + pick * 9 / 27) t = S 6 4 * sc_kd ((27 * key + pick) / p3 3) (t / p3 2) + sc_sum (min 3 2) (fun j => xst S m j (xdg 3 (27 * key + pick) j) (xdg 2 t j)) := by
  show S 6 4 * sc_kd ((9 * key + pick * 9 / 27) / 3 / 3 % 15) (t / 3 / 3 % 15) + xst S m 0 ((9 * key + pick * 9 / 27) / 3 % 3) (t / 3 % 3) + xst S m 1 ((9 * key + pick * 9 / 27) % 3) (t % 3) = S 6 4 * sc_kd ((27 * key + pick) / 27) (t / 9) + (0 + xst S m 0 ((27 * key + pick) / 9 % 3) (t / 3 % 3) + xst S m 1 ((27 * key + pick) / 3 % 3) (t / 1 % 3))
  have d0 : (9 * key + pick * 9 / 27) / 3 % 3 = (27 * key + pick) / 9 % 3 := by omega
  have e0 : t / 3 % 3 = t / 3 % 3 := by omega
  have d1 : (9 * key + pick * 9 / 27) % 3 = (27 * key + pick) / 3 % 3 := by omega
  have e1 : t % 3 = t / 1 % 3 := by omega
  have dk : (9 * key + pick * 9 / 27) / 3 / 3 % 15 = (27 * key + pick) / 27 := by omega
  have ek : t / 3 / 3 % 15 = t / 9 := by omega
  rw [dk, ek, d0, e0, d1, e1]
  omega
theorem xL_33 {S : sc_S} {m key pick t : Nat} (h1 : S 4 m = 3) (h2 : S 4 (m + 1) = 3) (hk : key < 15) (hp : pick < 27) (ht : t < 405) : xL S m 3 (27 * key + pick * 27 / 27) t = S 6 4 * sc_kd ((27 * key + pick) / p3 3) (t / p3 3) + sc_sum (min 3 3) (fun j => xst S m j (xdg 3 (27 * key + pick) j) (xdg 3 t j)) := by
  show S 6 4 * sc_kd ((27 * key + pick * 27 / 27) / 3 / 3 / 3 % 15) (t / 3 / 3 / 3 % 15) + xst S m 0 ((27 * key + pick * 27 / 27) / 3 / 3 % 3) (t / 3 / 3 % 3) + xst S m 1 ((27 * key + pick * 27 / 27) / 3 % 3) (t / 3 % 3) + xst S m 2 ((27 * key + pick * 27 / 27) % 3) (t % 3) = S 6 4 * sc_kd ((27 * key + pick) / 27) (t / 27) + (0 + xst S m 0 ((27 * key + pick) / 9 % 3) (t / 9 % 3) + xst S m 1 ((27 * key + pick) / 3 % 3) (t / 3 % 3) + xst S m 2 ((27 * key + pick) / 1 % 3) (t / 1 % 3))
  have d0 : (27 * key + pick * 27 / 27) / 3 / 3 % 3 = (27 * key + pick) / 9 % 3 := by omega
  have e0 : t / 3 / 3 % 3 = t / 9 % 3 := by omega
  have d1 : (27 * key + pick * 27 / 27) / 3 % 3 = (27 * key + pick) / 3 % 3 := by omega
  have e1 : t / 3 % 3 = t / 3 % 3 := by omega
  have d2 : (27 * key + pick * 27 / 27) % 3 = (27 * key + pick) / 1 % 3 := by omega
  have e2 : t % 3 = t / 1 % 3 := by omega
  have dk : (27 * key + pick * 27 / 27) / 3 / 3 / 3 % 15 = (27 * key + pick) / 27 := by omega
  have ek : t / 3 / 3 / 3 % 15 = t / 27 := by omega
  rw [dk, ek, d0, e0, d1, e1, d2, e2]
  omega
theorem xL_eq {S : sc_S} (hw : sc_wf S) {m key pick t : Nat} (hm : m + 1 < S 7 1) (hk : key < 15) (hp : pick < p3 (S 4 m)) (ht : t < 15 * p3 (S 4 (m + 1))) : xL S m (S 4 (m + 1)) (p3 (S 4 (m + 1)) * key + pick * p3 (S 4 (m + 1)) / p3 (S 4 m)) t = xlk S m (p3 (S 4 m) * key + pick) t := by
  have w := hw.2.2.1 m (by omega)
  have w1 := hw.2.2.1 (m + 1) hm
  unfold xlk
  rcases (show S 4 m = 1 ∨ S 4 m = 2 ∨ S 4 m = 3 by omega) with e | e | e <;> rcases (show S 4 (m + 1) = 1 ∨ S 4 (m + 1) = 2 ∨ S 4 (m + 1) = 3 by omega) with e1 | e1 | e1 <;> rw [e] at hp <;> rw [e1] at ht <;> rw [e, e1]
  · exact xL_11 e e1 hk hp ht
  · exact xL_12 e e1 hk hp ht
  · exact xL_13 e e1 hk hp ht
  · exact xL_21 e e1 hk hp ht
  · exact xL_22 e e1 hk hp ht
  · exact xL_23 e e1 hk hp ht
  · exact xL_31 e e1 hk hp ht
  · exact xL_32 e e1 hk hp ht
  · exact xL_33 e e1 hk hp ht
