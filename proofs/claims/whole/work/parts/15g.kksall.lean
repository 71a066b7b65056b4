theorem kks_split {α : Type} (f : α → Bool) (n : Nat) (l : List α) (h1 : (l.take n).all f = true) (h2 : (l.drop n).all f = true) : l.all f = true := by
  rw [← List.take_append_drop n l, List.all_append, h1, h2]; rfl
theorem kks_all : kks.all (fun q => kOk q.1 q.2) = true := by
  refine kks_split _ 12 _ (by simpa using kks_0) ?_
  try rw [List.drop_drop]
  try simp only [Nat.reduceAdd]
  refine kks_split _ 12 _ (by simpa using kks_1) ?_
  try rw [List.drop_drop]
  try simp only [Nat.reduceAdd]
  refine kks_split _ 12 _ (by simpa using kks_2) ?_
  try rw [List.drop_drop]
  try simp only [Nat.reduceAdd]
  refine kks_split _ 12 _ (by simpa using kks_3) ?_
  try rw [List.drop_drop]
  try simp only [Nat.reduceAdd]
  refine kks_split _ 12 _ (by simpa using kks_4) ?_
  try rw [List.drop_drop]
  try simp only [Nat.reduceAdd]
  refine kks_split _ 12 _ (by simpa using kks_5) ?_
  try rw [List.drop_drop]
  try simp only [Nat.reduceAdd]
  refine kks_split _ 12 _ (by simpa using kks_6) ?_
  try rw [List.drop_drop]
  try simp only [Nat.reduceAdd]
  refine kks_split _ 12 _ (by simpa using kks_7) ?_
  try rw [List.drop_drop]
  try simp only [Nat.reduceAdd]
  refine kks_split _ 12 _ (by simpa using kks_8) ?_
  try rw [List.drop_drop]
  try simp only [Nat.reduceAdd]
  refine kks_split _ 12 _ (by simpa using kks_9) ?_
  try rw [List.drop_drop]
  try simp only [Nat.reduceAdd]
  refine kks_split _ 12 _ (by simpa using kks_10) ?_
  try rw [List.drop_drop]
  try simp only [Nat.reduceAdd]
  refine kks_split _ 12 _ (by simpa using kks_11) ?_
  try rw [List.drop_drop]
  try simp only [Nat.reduceAdd]
  refine kks_split _ 12 _ (by simpa using kks_12) ?_
  try rw [List.drop_drop]
  try simp only [Nat.reduceAdd]
  refine kks_split _ 12 _ (by simpa using kks_13) ?_
  try rw [List.drop_drop]
  try simp only [Nat.reduceAdd]
  refine kks_split _ 12 _ (by simpa using kks_14) ?_
  try rw [List.drop_drop]
  try simp only [Nat.reduceAdd]
  refine kks_split _ 12 _ (by simpa using kks_15) ?_
  try rw [List.drop_drop]
  try simp only [Nat.reduceAdd]
  refine kks_split _ 12 _ (by simpa using kks_16) ?_
  try rw [List.drop_drop]
  try simp only [Nat.reduceAdd]
  refine kks_split _ 12 _ (by simpa using kks_17) ?_
  try rw [List.drop_drop]
  try simp only [Nat.reduceAdd]
  refine kks_split _ 12 _ (by simpa using kks_18) ?_
  try rw [List.drop_drop]
  try simp only [Nat.reduceAdd]
  refine kks_split _ 12 _ (by simpa using kks_19) ?_
  try rw [List.drop_drop]
  try simp only [Nat.reduceAdd]
  decide
