/-- the links of static arrays within the nest: class, entry, array, place -/
def slL : List (Nat × Nat × Nat × Nat) := [(2, 46, 0, 622), (3, 70, 0, 644), (3, 87, 2, 662), (3, 93, 3, 664), (3, 99, 1, 660)]
def stN (n : Nat) : String × String := [("WITHOUT_ITEM", "[I"), ("ITEM_LETTERS", "[C"), ("LEAST_OF_ITEM", "[I"), ("MOST_OF_ITEM", "[I")].getD n ("", "")
